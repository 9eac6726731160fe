/** Each promise of the document: ordinary inputs, the edges it names, and wrong inputs. */
public final class PromiseTest {
    private static final long NO_VALUE = Long.MIN_VALUE;
    private static final int LOW = Integer.MIN_VALUE;
    private static final int HIGH = Integer.MAX_VALUE;

    private static int wrong = 0;

    private static void due(String what, long got, long want) {
        if (got != want) {
            wrong++;
            System.out.println(what + " answered " + got + ", due is " + want);
        }
    }

    private static void write(DialogueGames x, String text) {
        for (int k = 0; k < text.length(); k++) x.append(text.charAt(k), 1);
    }

    private static int parse(DialogueGames x, String text) {
        x.clearInput();
        write(x, text);
        return x.parse();
    }

    private static int transform(DialogueGames x, String word, int formula) {
        x.clearInput();
        write(x, word);
        return x.transform(formula);
    }

    /** Fills a workbench up to a number of formulas with negations of negations. */
    private static void fillTo(DialogueGames x, int count) {
        int last = 3;
        while (x.formulaCount() < count) last = x.negate(last);
    }

    public static void main(String[] args) {
        examples();
        p1NewObject();
        p2Reset();
        p3FormulaCount();
        p4Append();
        p5ClearInput();
        p6Parse();
        p6ParseFull();
        p7Negate();
        p8Combine();
        p9Kind();
        p10Part();
        p11Size();
        p12Subformulas();
        p13TruthTable();
        p14IsEquivalent();
        p15Transform();
        p15Translate();
        p15Full();
        p16Rank();
        p17PositionCount();
        p18Manners();
        p19Begin();
        p20Claims();
        p21Defences();
        p22MoveCount();
        p23Move();
        p24Play();
        p25TakeBack();
        p26PositionRank();
        p27BestMove();
        p28HardestReply();
        p29Allocate();
        p30Release();
        p31PutElement();
        p32Element();
        p33Compute();
        p33Remainder();
        p34CopyElements();
        p35Replay();
        System.out.println(wrong == 0 ? "all promises are kept" : wrong + " answers are not as due");
        if (wrong != 0) System.exit(1);
    }

    private static void examples() {
        DialogueGames x = new DialogueGames();
        due("example 1 append", x.append(112, 1), 1);
        due("example 1 append", x.append(124, 1), 2);
        due("example 1 append", x.append(126, 1), 3);
        due("example 1 append", x.append(112, 1), 4);
        due("example 1 parse", x.parse(), 5);
        due("example 1 rank(5, 0)", x.rank(5, 0), -5);
        due("example 1 rank(5, 1)", x.rank(5, 1), 2);
        due("example 1 begin", x.begin(5, 1, 0), 1);
        due("example 1 defences", x.defences(), 17);
        due("example 1 moveCount", x.moveCount(), 1);
        due("example 1 bestMove", x.bestMove(), 0);
        due("example 1 play", x.play(0, 0), 2);
        due("example 1 play", x.play(0, 0), 1000);

        x = new DialogueGames();
        due("example 2 negate", x.negate(0), 4);
        due("example 2 negate", x.negate(4), 5);
        due("example 2 combine", x.combine(4, 0, 5), 6);
        due("example 2 rank", x.rank(6, 0), 2);
        due("example 2 positionCount", x.positionCount(6, 0), 2);
        due("example 2 begin", x.begin(6, 0, 0), 1);
        due("example 2 move", x.move(0, 1), 5);
        due("example 2 play", x.play(0, 0), 1);
        due("example 2 positionRank", x.positionRank(), 1);
        due("example 2 takeBack", x.takeBack(), 0);

        x = new DialogueGames();
        due("example 3 combine", x.combine(2, 0, 1), 4);
        due("example 3 truthTable", x.truthTable(4), 34952);
        due("example 3 rank", x.rank(4, 1), -5);
        due("example 3 begin", x.begin(4, 0, 1), 0);
        due("example 3 claims", x.claims(), 0);
        due("example 3 moveCount", x.moveCount(), 0);
        due("example 3 append", x.append(112, 2), 2);
        due("example 3 parse", x.parse(), -1001);
        due("example 3 combine", x.combine(5, 0, 0), -1);
    }

    private static void p1NewObject() {
        DialogueGames x = new DialogueGames();
        due("p1 formulaCount", x.formulaCount(), 4);
        for (int k = 0; k < 4; k++) due("p1 kind", x.kind(k), 0);
        due("p1 kind(4)", x.kind(4), -2);
        due("p1 clearInput", x.clearInput(), 0);
        due("p1 moveCount", x.moveCount(), -7);
        due("p1 takeBack", x.takeBack(), -5);
        for (int k = 0; k < 4; k++) due("p1 release", x.release(k), 0);
        DialogueGames y = new DialogueGames();
        x.negate(0);
        x.append(112, 1);
        x.allocate(0, 0, 1);
        due("p1 objects are apart", y.formulaCount(), 4);
        due("p1 objects are apart", y.clearInput(), 0);
        due("p1 objects are apart", y.release(0), 0);
    }

    private static void p2Reset() {
        DialogueGames x = new DialogueGames();
        due("p2 reset new", x.reset(), 4);
        x.negate(0);
        x.combine(4, 0, 0);
        x.append(112, 3);
        x.allocate(2, 1, 5);
        x.putElement(2, 4, 77);
        x.begin(5, 0, 0);
        x.play(0, 0);
        due("p2 reset", x.reset(), 6);
        due("p2 formulaCount", x.formulaCount(), 4);
        due("p2 kind(4)", x.kind(4), -2);
        due("p2 the dialogue ended", x.moveCount(), -7);
        due("p2 nothing to take back", x.takeBack(), -5);
        due("p2 claims", x.claims(), NO_VALUE);
        due("p2 element stays", x.element(2, 4), 77);
        due("p2 input stays", x.clearInput(), 3);
        due("p2 numbers are used again", x.combine(2, 0, 1), 4);
        due("p2 with another meaning", x.rank(4, 0), -5);
        due("p2 with another table", x.truthTable(4), 34952);
        due("p2 reset again", x.reset(), 5);
    }

    private static void p3FormulaCount() {
        DialogueGames x = new DialogueGames();
        x.negate(0);
        due("p3 after one", x.formulaCount(), 5);
        x.negate(0);
        due("p3 after the same", x.formulaCount(), 5);
        fillTo(x, 40);
        due("p3 full", x.formulaCount(), 40);
    }

    private static void p4Append() {
        DialogueGames x = new DialogueGames();
        due("p4 append 0", x.append(0, 1), 1);
        due("p4 append 127", x.append(127, 38), 39);
        due("p4 too many", x.append(1, 2), -3);
        due("p4 nothing was appended", x.append(1, 1), 40);
        due("p4 full", x.append(1, 1), -3);
        due("p4 value -1", x.append(-1, 1), -1);
        due("p4 value 128", x.append(128, 1), -1);
        due("p4 count 0", x.append(1, 0), -1);
        due("p4 count 41", x.append(1, 41), -1);
        due("p4 count -1", x.append(1, -1), -1);
        due("p4 wild", x.append(LOW, HIGH), -1);
        due("p4 wild", x.append(1, HIGH), -1);
        due("p4 wild", x.append(1, LOW), -1);
        x.clearInput();
        due("p4 count 40", x.append(112, 40), 40);
    }

    private static void p5ClearInput() {
        DialogueGames x = new DialogueGames();
        due("p5 empty", x.clearInput(), 0);
        x.append(112, 7);
        due("p5 seven", x.clearInput(), 7);
        due("p5 empty again", x.clearInput(), 0);
        x.append(113, 1);
        due("p5 the old bytes are gone", x.parse(), 1);
    }

    private static void p6Parse() {
        String[] atoms = {"p", "q", "r", "s", "(p)", "((((s))))"};
        int[] numbers = {0, 1, 2, 3, 0, 3};
        for (int k = 0; k < atoms.length; k++) due("p6 " + atoms[k], parse(new DialogueGames(), atoms[k]), numbers[k]);

        DialogueGames x = new DialogueGames();
        due("p6 p&q&r", parse(x, "p&q&r"), 5);
        due("p6 kind", x.kind(5), 2);
        due("p6 left is p&q", x.part(5, 0), 4);
        due("p6 right is r", x.part(5, 1), 2);
        x = new DialogueGames();
        due("p6 p|q|r", parse(x, "p|q|r"), 5);
        due("p6 left is p|q", x.part(5, 0), 4);
        x = new DialogueGames();
        due("p6 p>q>r", parse(x, "p>q>r"), 5);
        due("p6 right is q>r", x.part(5, 1), 4);
        due("p6 left is p", x.part(5, 0), 0);
        x = new DialogueGames();
        due("p6 p>q|r&~s", parse(x, "p>q|r&~s"), 7);
        due("p6 ~s is first", x.kind(4), 1);
        due("p6 r&~s is second", x.kind(5), 2);
        due("p6 q|r&~s is third", x.kind(6), 3);
        due("p6 the implication is last", x.kind(7), 4);
        x = new DialogueGames();
        due("p6 ~p&q", parse(x, "~p&q"), 5);
        due("p6 negation binds most", x.part(5, 0), 4);
        x = new DialogueGames();
        due("p6 ~(p&q)", parse(x, "~(p&q)"), 5);
        due("p6 the conjunction is the part", x.kind(x.part(5, 0)), 2);
        x = new DialogueGames();
        due("p6 ~~~p", parse(x, "~~~p"), 6);
        due("p6 same again", parse(x, "~(~(~(p)))"), 6);
        due("p6 none was made", x.formulaCount(), 7);
        x = new DialogueGames();
        due("p6 order of ends", parse(x, "(p>q)&(r|s)>~(q&r)"), 9);
        due("p6 p>q", x.kind(4), 4);
        due("p6 r|s", x.kind(5), 3);
        due("p6 the conjunction of both", x.part(6, 1), 5);
        due("p6 q&r", x.part(7, 0), 1);
        due("p6 ~(q&r)", x.part(8, 0), 7);
        due("p6 whole", x.part(9, 0), 6);
        x = new DialogueGames();
        due("p6 equal parts once", parse(x, "(p&q)|(p&q)"), 5);
        due("p6 p|q&r>s", parse(x, "p|q&r>s"), 8);

        String[] bad = {"", "t", "p>", "(p", "pq", "()", ")", "p)", "~", "~)", "p&&q", "p|&q", "p>>q", "(p&q))", "((p)", "p ", " p", "P", "p~q", "p(q)", "(p>q)p", "p&", "~~"};
        int[] at = {0, 0, 2, 2, 1, 1, 0, 1, 1, 1, 2, 2, 2, 5, 4, 1, 0, 0, 1, 1, 5, 2, 2};
        x = new DialogueGames();
        for (int k = 0; k < bad.length; k++) due("p6 " + bad[k], parse(x, bad[k]), -1000 - at[k]);
        due("p6 bad texts make nothing", x.formulaCount(), 4);
        x.append(40, 40);
        due("p6 forty parentheses", x.parse(), -1040);
        due("p6 the text was consumed", x.clearInput(), 0);
        x.append(126, 40);
        due("p6 forty negations", x.parse(), -1040);
        x.append(40, 19);
        x.append(112, 1);
        x.append(41, 19);
        due("p6 deep", x.parse(), 0);
        x.append(0, 1);
        due("p6 byte 0", x.parse(), -1000);
    }

    private static void p6ParseFull() {
        DialogueGames x = new DialogueGames();
        x.append(126, 36);
        x.append(112, 1);
        due("p6 36 negations fit", x.parse(), 39);
        due("p6 full of formulas", x.formulaCount(), 40);
        due("p6 an existing one", parse(x, "~~p"), 5);
        due("p6 a new one", parse(x, "~q"), -3);
        due("p6 a fault comes first", parse(x, "~q~"), -1002);
        due("p6 consumed", x.clearInput(), 0);
        x = new DialogueGames();
        x.append(126, 37);
        x.append(112, 1);
        due("p6 37 negations do not", x.parse(), -3);
        due("p6 none is made", x.formulaCount(), 4);
        x = new DialogueGames();
        fillTo(x, 38);
        due("p6 three are too many", parse(x, "p&q|r>s"), -3);
        due("p6 none of them is made", x.formulaCount(), 38);
        due("p6 two fit", parse(x, "p&q|r"), 39);
    }

    private static void p7Negate() {
        DialogueGames x = new DialogueGames();
        due("p7 no such", x.negate(4), -2);
        due("p7 -1", x.negate(-1), -2);
        due("p7 wild", x.negate(LOW), -2);
        due("p7 wild", x.negate(HIGH), -2);
        due("p7 negate", x.negate(3), 4);
        due("p7 again", x.negate(3), 4);
        due("p7 kind", x.kind(4), 1);
        due("p7 part", x.part(4, 0), 3);
        fillTo(x, 40);
        due("p7 exists", x.negate(3), 4);
        due("p7 full", x.negate(0), -3);
        due("p7 no such when full", x.negate(40), -2);
        due("p7 none made", x.formulaCount(), 40);
    }

    private static void p8Combine() {
        DialogueGames x = new DialogueGames();
        due("p8 conjunction", x.combine(2, 0, 1), 4);
        due("p8 disjunction", x.combine(3, 0, 1), 5);
        due("p8 implication", x.combine(4, 0, 1), 6);
        due("p8 other order", x.combine(2, 1, 0), 7);
        due("p8 again", x.combine(2, 0, 1), 4);
        due("p8 same parts", x.combine(2, 3, 3), 8);
        due("p8 kind 1", x.combine(1, 0, 0), -1);
        due("p8 kind 5", x.combine(5, 0, 0), -1);
        due("p8 kind 0", x.combine(0, 0, 0), -1);
        due("p8 kind first", x.combine(5, 99, 99), -1);
        due("p8 first", x.combine(2, 9, 0), -2);
        due("p8 second", x.combine(2, 0, 9), -2);
        due("p8 negative", x.combine(4, 0, -1), -2);
        due("p8 wild", x.combine(4, LOW, HIGH), -2);
        due("p8 kinds", x.kind(5) * 10 + x.kind(6), 34);
        fillTo(x, 40);
        due("p8 exists", x.combine(4, 0, 1), 6);
        due("p8 full", x.combine(4, 1, 0), -3);
        due("p8 no such first", x.combine(4, 1, 40), -2);
    }

    private static void p9Kind() {
        DialogueGames x = new DialogueGames();
        x.negate(0);
        x.combine(2, 0, 1);
        x.combine(3, 0, 1);
        x.combine(4, 0, 1);
        for (int k = 0; k < 4; k++) due("p9 kind of " + (4 + k), x.kind(4 + k), 1 + k);
        due("p9 atom", x.kind(3), 0);
        due("p9 none", x.kind(8), -2);
        due("p9 negative", x.kind(-1), -2);
        due("p9 wild", x.kind(LOW), -2);
    }

    private static void p10Part() {
        DialogueGames x = new DialogueGames();
        x.negate(2);
        x.combine(4, 4, 1);
        due("p10 negation A", x.part(4, 0), 2);
        due("p10 negation B", x.part(4, 1), -5);
        due("p10 A", x.part(5, 0), 4);
        due("p10 B", x.part(5, 1), 1);
        due("p10 atom", x.part(0, 0), -5);
        due("p10 atom", x.part(0, 1), -5);
        due("p10 which 2", x.part(0, 2), -1);
        due("p10 which -1", x.part(5, -1), -1);
        due("p10 formula first", x.part(6, 9), -2);
        due("p10 wild", x.part(LOW, 0), -2);
    }

    private static void p11Size() {
        DialogueGames x = new DialogueGames();
        due("p11 atom", x.size(0), 1);
        x.negate(0);
        due("p11 negation", x.size(4), 2);
        x.combine(2, 4, 4);
        due("p11 both parts count", x.size(5), 5);
        int last = 5;
        for (int k = 0; k < 7; k++) last = x.combine(3, last, last);
        due("p11 767", x.size(last), 767);
        int more = x.combine(2, last, 5);
        for (int k = 773; k < 1000; k += 1) {
            if (x.formulaCount() > 30) break;
            more = x.negate(more);
        }
        due("p11 below the bound", x.size(more), 773 + 17);
        last = x.combine(3, last, last);
        due("p11 at most 1000", x.size(last), 1000);
        last = x.combine(4, last, last);
        due("p11 still 1000", x.size(last), 1000);
        due("p11 none", x.size(40), -2);
        due("p11 negative", x.size(-1), -2);
        DialogueGames y = new DialogueGames();
        last = 0;
        while (y.formulaCount() < 40) last = y.combine(2, last, last);
        due("p11 far above", y.size(last), 1000);
    }

    private static void p12Subformulas() {
        DialogueGames x = new DialogueGames();
        due("p12 atom", x.subformulas(3), 8);
        int f = parse(x, "(p>q)&~r");
        due("p12 all", x.subformulas(f), 1 + 2 + 4 + 16 + 32 + 64);
        x.negate(3);
        due("p12 only its own", x.subformulas(7), 8 + 128);
        due("p12 none", x.subformulas(8), NO_VALUE);
        due("p12 negative", x.subformulas(-1), NO_VALUE);
        fillTo(x, 40);
        due("p12 high bits", x.subformulas(39), 8L + ((1L << 40) - (1L << 7)));
    }

    private static void p13TruthTable() {
        DialogueGames x = new DialogueGames();
        int[] atoms = {0xAAAA, 0xCCCC, 0xF0F0, 0xFF00};
        for (int k = 0; k < 4; k++) due("p13 atom", x.truthTable(k), atoms[k]);
        due("p13 ~p", x.truthTable(parse(x, "~p")), 0x5555);
        due("p13 p&q", x.truthTable(parse(x, "p&q")), 0x8888);
        due("p13 p|q", x.truthTable(parse(x, "p|q")), 0xEEEE);
        due("p13 p>q", x.truthTable(parse(x, "p>q")), 0xDDDD);
        due("p13 q>p", x.truthTable(parse(x, "q>p")), 0xBBBB);
        due("p13 p&~p", x.truthTable(parse(x, "p&~p")), 0);
        due("p13 p|~p", x.truthTable(parse(x, "p|~p")), 65535);
        due("p13 r>s", x.truthTable(parse(x, "r>s")), 0xFF0F);
        due("p13 none", x.truthTable(40), -2);
        due("p13 negative", x.truthTable(-1), -2);
    }

    private static void p14IsEquivalent() {
        DialogueGames x = new DialogueGames();
        int a = parse(x, "p>q");
        int b = parse(x, "~p|q");
        due("p14 same", x.isEquivalent(a, b), 1);
        due("p14 itself", x.isEquivalent(a, a), 1);
        due("p14 other", x.isEquivalent(a, 0), 0);
        due("p14 first", x.isEquivalent(20, 0), -2);
        due("p14 second", x.isEquivalent(0, 20), -2);
        due("p14 wild", x.isEquivalent(LOW, HIGH), -2);
    }

    private static void p15Transform() {
        DialogueGames x = new DialogueGames();
        due("p15 negate", transform(x, "negate", 0), 4);
        due("p15 double", transform(x, "double", 1), 6);
        due("p15 double has ~q", x.part(6, 0), 5);
        int f = x.combine(2, 0, 1);
        due("p15 double a conjunction", transform(x, "double", f), f + 2);
        due("p15 by two negations", x.part(x.part(f + 2, 0), 0), f);
        int g = transform(x, "commute", f);
        due("p15 commute", x.kind(g), 2);
        due("p15 commute A", x.part(g, 0), 1);
        due("p15 commute B", x.part(g, 1), 0);
        due("p15 commute back", transform(x, "commute", g), f);
        int d = x.combine(3, 2, 2);
        due("p15 commute equal parts", transform(x, "commute", d), d);
        int i = x.combine(4, 2, 3);
        due("p15 contrapose", transform(x, "contrapose", i), i + 3);
        due("p15 ~s is made first", x.part(i + 1, 0), 3);
        due("p15 ~r second", x.part(i + 2, 0), 2);
        due("p15 A is ~s", x.part(i + 3, 0), i + 1);
        due("p15 B is ~r", x.part(i + 3, 1), i + 2);
        due("p15 kind", x.kind(i + 3), 4);
        due("p15 commute an implication", transform(x, "commute", i), -4);
        due("p15 commute an atom", transform(x, "commute", 0), -4);
        due("p15 commute a negation", transform(x, "commute", 4), -4);
        due("p15 contrapose a conjunction", transform(x, "contrapose", f), -4);
        due("p15 contrapose an atom", transform(x, "contrapose", 0), -4);
        String[] bad = {"", "n", "negat", "negated", "Negate", "double ", "translat", "commutes", "p"};
        for (String word : bad) due("p15 word " + word, transform(x, word, f), -4);
        due("p15 consumed", x.clearInput(), 0);
        due("p15 no formula first", transform(x, "nonsense", 40), -2);
        due("p15 consumed all the same", x.clearInput(), 0);
        due("p15 no formula", transform(x, "negate", -1), -2);
    }

    private static void p15Translate() {
        DialogueGames x = new DialogueGames();
        due("p15 atom", transform(x, "translate", 0), 5);
        due("p15 atom made ~p", x.part(5, 0), 4);
        due("p15 negation", transform(x, "translate", 4), 6);
        due("p15 negation of ~~p", x.part(6, 0), 5);
        x = new DialogueGames();
        int f = x.combine(4, 1, 0);
        int t = transform(x, "translate", f);
        due("p15 implication", t, 9);
        due("p15 ~q", x.part(f + 1, 0), 1);
        due("p15 ~~q", x.part(f + 2, 0), f + 1);
        due("p15 ~p", x.part(f + 3, 0), 0);
        due("p15 ~~p", x.part(f + 4, 0), f + 3);
        due("p15 ~~q>~~p", x.part(t, 0) * 100 + x.part(t, 1), (f + 2) * 100 + f + 4);
        x = new DialogueGames();
        f = x.combine(3, 0, 1);
        t = transform(x, "translate", f);
        due("p15 disjunction", t, f + 8);
        due("p15 ~~~p comes before ~q", x.part(f + 3, 0), f + 2);
        due("p15 ~q", x.part(f + 4, 0), 1);
        due("p15 conjunction", x.kind(f + 7), 2);
        due("p15 its parts", x.part(f + 7, 0) * 100 + x.part(f + 7, 1), (f + 3) * 100 + f + 6);
        due("p15 negation of it", x.part(t, 0), f + 7);
        due("p15 equivalent", x.isEquivalent(f, t), 1);
        x = new DialogueGames();
        int a = x.negate(0);
        int b = x.combine(2, 1, 1);
        f = x.combine(2, b, a);
        t = transform(x, "translate", f);
        due("p15 A before B even if B is older: ~q", x.part(f + 1, 0), 1);
        due("p15 ~~q&~~q is third", x.kind(f + 3), 2);
        due("p15 ~~p is fourth, for ~p exists", x.part(f + 4, 0), a);
        due("p15 whole", t, f + 6);
        x = new DialogueGames();
        int last = x.combine(2, 0, 0);
        while (x.formulaCount() < 20) last = x.combine(2, last, last);
        due("p15 shared parts once", transform(x, "translate", last), 37);
    }

    private static void p15Full() {
        DialogueGames x = new DialogueGames();
        fillTo(x, 39);
        due("p15 double does not fit", transform(x, "double", 0), -3);
        due("p15 none is made", x.formulaCount(), 39);
        due("p15 negate fits", transform(x, "negate", 0), 39);
        due("p15 negate does not fit", transform(x, "negate", 1), -3);
        due("p15 an existing one", transform(x, "negate", 0), 39);
        due("p15 word first", transform(x, "commute", 0), -4);
        x = new DialogueGames();
        int f = x.combine(4, 0, 1);
        fillTo(x, 38);
        due("p15 contrapose does not fit", transform(x, "contrapose", f), -3);
        due("p15 none of three", x.formulaCount(), 38);
        x = new DialogueGames();
        int last = x.combine(2, 0, 0);
        while (x.formulaCount() < 40) last = x.combine(2 + x.formulaCount() % 3, last, last);
        due("p15 translate does not fit", transform(x, "translate", last), -3);
        due("p15 none of many", x.formulaCount(), 40);
        x = new DialogueGames();
        last = x.combine(3, 0, 0);
        while (x.formulaCount() < 25) last = x.combine(3, last, last);
        due("p15 translate stops at once", transform(x, "translate", last), -3);
        due("p15 none of those", x.formulaCount(), 25);
    }

    private static final String FULL_SEARCH = "(((p&r)&(~p))&((q|q)&(s|q)))>(~(~(~p)))";
    private static final String BEYOND_SEARCH = "(((r>s)>(s>p))|((q&r)>(r|q)))>(~(~(~s)))";

    private static void p16Rank() {
        String[] texts = {"p>p", "p|~p", "((p>q)>p)>p", "~~(p|~p)", "p&q>q&p", "~(p&~p)", "~~p>p", "p&q", "p>q", "(p>p)&(p&q>q&p)", "(p>p)&q", "~~~p>~p"};
        int[] intuitionistic = {1, -5, -5, 4, 3, 3, -5, -5, -5, 4, -5, 3};
        int[] classical = {1, 2, 2, 3, 3, 3, 2, -5, -5, 4, -5, 3};
        for (int k = 0; k < texts.length; k++) {
            DialogueGames x = new DialogueGames();
            int f = parse(x, texts[k]);
            due("p16 " + texts[k] + " in manner 0", x.rank(f, 0), intuitionistic[k]);
            due("p16 " + texts[k] + " in manner 1", x.rank(f, 1), classical[k]);
        }
        DialogueGames x = new DialogueGames();
        due("p16 atom", x.rank(0, 0), -5);
        due("p16 atom", x.rank(3, 1), -5);
        due("p16 formula first", x.rank(4, 2), -2);
        due("p16 manner 2", x.rank(0, 2), -1);
        due("p16 manner -1", x.rank(0, -1), -1);
        int nested = parse(x, "(q>q)&((q>q)&(q>q))");
        due("p16 one start leads to the other", x.rank(nested, 0), 3);
        due("p16 one start leads to the other", x.rank(nested, 1), 3);
        x.reset();
        int full = parse(x, FULL_SEARCH);
        due("p16 300 positions", x.rank(full, 0), 5);
        due("p16 300 positions", x.rank(full, 1), 5);
        x = new DialogueGames();
        int beyond = parse(x, BEYOND_SEARCH);
        due("p16 301 positions", x.rank(beyond, 1), -6);
        due("p16 manner before limit", x.rank(beyond, 2), -1);
    }

    private static void p17PositionCount() {
        DialogueGames x = new DialogueGames();
        due("p17 atom", x.positionCount(0, 0), 0);
        due("p17 formula first", x.positionCount(4, 7), -2);
        due("p17 manner", x.positionCount(0, 2), -1);
        due("p17 manner", x.positionCount(0, -1), -1);
        int same = x.combine(2, 0, 0);
        due("p17 two attacks, one position", x.positionCount(same, 0), 1);
        int two = x.combine(2, 0, 1);
        due("p17 two attacks, two positions", x.positionCount(two, 0), 2);
        due("p17 p>p", x.positionCount(parse(x, "p>p"), 0), 1);
        int full = parse(x, FULL_SEARCH);
        due("p17 300", x.positionCount(full, 0), 300);
        due("p17 300", x.positionCount(full, 1), 300);
        x = new DialogueGames();
        due("p17 301", x.positionCount(parse(x, BEYOND_SEARCH), 1), -6);
        due("p17 a search afterwards", x.positionCount(parse(x, "p>p"), 1), 1);
    }

    private static void p18Manners() {
        String[] texts = {"p", "p>q", "p|~p", "p>p", "p>~~p", "~~p>p"};
        int[] answers = {0, 0, 1, 3, 3, 1};
        DialogueGames x = new DialogueGames();
        for (int k = 0; k < texts.length; k++) due("p18 " + texts[k], x.manners(parse(x, texts[k])), answers[k]);
        due("p18 none", x.manners(40), -2);
        due("p18 negative", x.manners(-1), -2);
        x = new DialogueGames();
        int beyond = parse(x, BEYOND_SEARCH);
        due("p18 limit", x.manners(beyond), -6);
        x = new DialogueGames();
        int one = parse(x, "((~(q&p))>((p>p)&(s>r)))|(~((s|r)&(~r)))");
        due("p18 one manner is within the limit", x.positionCount(one, 0) > 0 ? 1 : 0, 1);
        due("p18 the other is not", x.positionCount(one, 1), -6);
        due("p18 limit in either", x.manners(one), -6);
    }

    private static void p19Begin() {
        DialogueGames x = new DialogueGames();
        due("p19 no formula first", x.begin(4, 5, 5), -2);
        due("p19 atom", x.begin(0, 0, 0), -1);
        int n = x.negate(0);
        int c = x.combine(2, n, 1);
        int d = x.combine(3, 0, n);
        int i = x.combine(4, c, n);
        due("p19 manner", x.begin(n, 2, 0), -1);
        due("p19 manner", x.begin(n, -1, 0), -1);
        due("p19 attack", x.begin(n, 0, 1), -1);
        due("p19 attack", x.begin(d, 0, 1), -1);
        due("p19 attack", x.begin(i, 0, 1), -1);
        due("p19 attack", x.begin(c, 0, 2), -1);
        due("p19 attack", x.begin(c, 0, -1), -1);
        due("p19 nothing began", x.moveCount(), -7);
        due("p19 negation", x.begin(n, 0, 0), 0);
        due("p19 conjunction 0", x.begin(c, 0, 0), 1);
        due("p19 conjunction 1", x.begin(c, 0, 1), 0);
        due("p19 disjunction", x.begin(d, 0, 0), 1);
        due("p19 implication", x.begin(i, 0, 0), 3);
        x.play(0, 0);
        due("p19 a wrong begin leaves the dialogue", x.begin(0, 0, 0), -1);
        due("p19 it is still played", x.takeBack(), 0);
        x.play(0, 0);
        x.begin(d, 1, 0);
        due("p19 a replaced dialogue has nothing to take back", x.takeBack(), -5);
        due("p19 after the one that is over", x.play(0, 0), 2);
        due("p19 won", x.play(0, 0), 1000);
        due("p19 begins anew", x.begin(d, 1, 0), 1);
        due("p19 plays again", x.moveCount(), 1);
    }

    private static void p20Claims() {
        DialogueGames x = new DialogueGames();
        due("p20 not begun", x.claims(), NO_VALUE);
        int f = parse(x, "p&q>q&p");
        x.begin(f, 0, 0);
        due("p20 the antecedent", x.claims(), 16);
        x.play(1, 0);
        due("p20 and p", x.claims(), 17);
        x.play(2, 0);
        due("p20 and q", x.claims(), 19);
        x.play(0, 0);
        due("p20 an attack without a claim", x.claims(), 19);
        due("p20 win", x.play(0, 0), 1000);
        due("p20 over", x.claims(), NO_VALUE);
        x.takeBack();
        due("p20 taken back", x.claims(), 19);
    }

    private static void p21Defences() {
        DialogueGames x = new DialogueGames();
        due("p21 not begun", x.defences(), NO_VALUE);
        int d = parse(x, "p|~p");
        x.begin(d, 0, 0);
        due("p21 both", x.defences(), 17);
        x.play(0, 0);
        due("p21 replaced by none", x.defences(), 0);
        x.begin(d, 1, 0);
        x.play(0, 0);
        due("p21 kept", x.defences(), 17);
        x.play(0, 0);
        due("p21 over", x.defences(), NO_VALUE);
        int f = parse(x, "p&q>(r>s)");
        x.begin(f, 1, 0);
        long open = x.defences();
        x.play(1, 0);
        due("p21 a claim leaves them", x.defences(), open);
        x.play(0, 0);
        due("p21 added", x.defences(), open | 8);
        x.begin(f, 0, 0);
        x.play(0, 0);
        due("p21 replaced", x.defences(), 8);
    }

    private static void p22MoveCount() {
        DialogueGames x = new DialogueGames();
        due("p22 not begun", x.moveCount(), -7);
        int f = parse(x, "~p&(p>q)>~~p|p");
        x.begin(f, 0, 0);
        due("p22 a disjunction and two parts", x.moveCount(), 3);
        x.play(1, 0);
        due("p22 ~p cannot be attacked without p", x.moveCount(), 3);
        x.play(2, 0);
        due("p22 nor p>q", x.moveCount(), 3);
        x.play(0, 0);
        due("p22 p is no move, ~~p is", x.moveCount(), 3);
        x.play(0, 0);
        due("p22 two parts", x.moveCount(), 2);
        int g = parse(x, "p>p");
        x.begin(g, 0, 0);
        x.play(0, 0);
        due("p22 over", x.moveCount(), -7);
    }

    private static void p23Move() {
        DialogueGames x = new DialogueGames();
        due("p23 not begun", x.move(0, 9), -7);
        int f = parse(x, "(p|q)&(p&q>r)>~~r");
        x.begin(f, 0, 0);
        int conjunction = x.part(f, 0);
        due("p23 claim", x.move(0, 0), 0);
        due("p23 claimed", x.move(0, 1), x.part(f, 1));
        due("p23 one attack on it", x.move(0, 2), 1);
        due("p23 left", x.move(1, 0), 2);
        due("p23 of the conjunction", x.move(1, 1), conjunction);
        due("p23 one reply", x.move(1, 2), 1);
        due("p23 right", x.move(2, 0), 3);
        due("p23 right of the conjunction", x.move(2, 1), conjunction);
        due("p23 one reply", x.move(2, 2), 1);
        due("p23 what 3", x.move(0, 3), -1);
        due("p23 what -1", x.move(0, -1), -1);
        due("p23 what first", x.move(99, 3), -1);
        due("p23 no such move", x.move(3, 0), -5);
        due("p23 no such move", x.move(-1, 2), -5);
        due("p23 no such move", x.move(HIGH, 1), -5);
        x.play(1, 0);
        x.play(3, 0);
        due("p23 attack on the disjunction", x.move(1, 0), 1);
        due("p23 it", x.move(1, 1), x.part(conjunction, 0));
        due("p23 two replies", x.move(1, 2), 2);
        due("p23 attack on the implication", x.move(2, 0), 1);
        due("p23 it", x.move(2, 1), x.part(conjunction, 1));
        due("p23 two attacks and a claim", x.move(2, 2), 3);
        x.play(0, 0);
        due("p23 attack on ~r needs r", x.moveCount(), 4);
        DialogueGames y = new DialogueGames();
        int g = parse(y, "~(p&q)>r");
        y.begin(g, 0, 0);
        due("p23 attack on a negation", y.move(0, 0), 1);
        due("p23 has the replies to its part", y.move(0, 2), 2);
        int h = parse(y, "p>p");
        y.begin(h, 0, 0);
        due("p23 no reply to an atom", y.move(0, 2), 0);
        y.play(0, 0);
        due("p23 over", y.move(0, 0), -7);
    }

    private static void p24Play() {
        DialogueGames x = new DialogueGames();
        due("p24 not begun", x.play(-1, -1), -7);
        int f = parse(x, "p&q>q&p");
        x.begin(f, 0, 0);
        due("p24 no such move", x.play(3, 9), -5);
        due("p24 no such move", x.play(-1, 0), -5);
        due("p24 no such reply", x.play(0, 2), -1);
        due("p24 no such reply", x.play(0, -1), -1);
        due("p24 no such reply", x.play(1, 1), -1);
        due("p24 nothing was played", x.takeBack(), -5);
        for (int k = 0; k < 20; k++) due("p24 the same move again", x.play(1, 0), 3);
        due("p24 21st", x.play(1, 0), -3);
        due("p24 move first", x.play(9, 0), -5);
        due("p24 reply first", x.play(1, 9), -1);
        due("p24 20 are left", x.takeBack(), 19);
        due("p24 20th again", x.play(2, 0), 3);
        x.begin(f, 0, 0);
        x.play(2, 0);
        x.play(0, 0);
        for (int k = 0; k < 18; k++) x.play(1, 0);
        due("p24 full before a win", x.play(0, 0), -3);
        x.takeBack();
        due("p24 the 20th wins", x.play(0, HIGH), 1000);
        due("p24 over", x.play(0, 0), -7);
        due("p24 over", x.takeBack(), 19);
        int g = parse(x, "(p>q)&(~p>q)>q");
        x.begin(g, 1, 0);
        x.play(0, 0);
        x.play(1, 0);
        due("p24 an atom may be asked for only if claimed", x.moveCount(), 3);
        due("p24 the attack on ~p gives p", x.play(0, 0), 4);
        due("p24 claims p", x.claims() & 3, 1);
        x.takeBack();
        due("p24 the last reply claims q", x.play(0, 1), 4);
        due("p24 claims q", x.claims() & 3, 2);
        x.begin(parse(x, "r|s>p"), 0, 0);
        x.play(0, 0);
        due("p24 reply 0 claims A", x.claims() & 12, 4);
        x.takeBack();
        x.play(0, 1);
        due("p24 reply 1 claims B", x.claims() & 12, 8);
    }

    private static void p25TakeBack() {
        DialogueGames x = new DialogueGames();
        due("p25 not begun", x.takeBack(), -5);
        int f = parse(x, "p&q>q&p");
        x.begin(f, 1, 0);
        due("p25 nothing played", x.takeBack(), -5);
        due("p25 the dialogue goes on", x.moveCount(), 3);
        x.play(1, 0);
        x.play(2, 0);
        long open = x.defences();
        x.play(0, 1);
        due("p25 two left", x.takeBack(), 2);
        due("p25 defences", x.defences(), open);
        due("p25 claims", x.claims(), 19);
        due("p25 one left", x.takeBack(), 1);
        due("p25 claims", x.claims(), 17);
        due("p25 none left", x.takeBack(), 0);
        due("p25 claims", x.claims(), 16);
        due("p25 no more", x.takeBack(), -5);
        x.begin(parse(x, "p>p"), 0, 0);
        x.play(0, 0);
        due("p25 a win", x.takeBack(), 0);
        due("p25 it goes on", x.play(0, 0), 1000);
        x.reset();
        due("p25 reset", x.takeBack(), -5);
    }

    private static void p26PositionRank() {
        DialogueGames x = new DialogueGames();
        due("p26 not begun", x.positionRank(), -7);
        int f = parse(x, "((p>q)>p)>p");
        x.begin(f, 1, 0);
        due("p26 two", x.positionRank(), 2);
        x.play(0, 0);
        due("p26 one", x.positionRank(), 1);
        x.play(0, 0);
        due("p26 over", x.positionRank(), -7);
        x.begin(f, 0, 0);
        due("p26 none", x.positionRank(), -5);
        x.play(0, 1);
        due("p26 after the kind reply", x.positionRank(), 1);
        x = new DialogueGames();
        int beyond = parse(x, BEYOND_SEARCH);
        x.begin(beyond, 1, 0);
        due("p26 limit", x.positionRank(), -6);
        x = new DialogueGames();
        int full = parse(x, FULL_SEARCH);
        x.begin(full, 1, 0);
        due("p26 300 positions", x.positionRank(), 5);
        x.reset();
        due("p26 reset", x.positionRank(), -7);
    }

    private static void p27BestMove() {
        DialogueGames x = new DialogueGames();
        due("p27 not begun", x.bestMove(), -7);
        int f = parse(x, "p&q>q&p");
        x.begin(f, 0, 0);
        due("p27 all are as good: the first", x.bestMove(), 0);
        x.play(0, 0);
        due("p27 q is needed", x.bestMove(), 1);
        x.begin(f, 0, 0);
        x.play(0, 1);
        due("p27 p is needed", x.bestMove(), 0);
        x.begin(parse(x, "p>q"), 1, 0);
        due("p27 none", x.bestMove(), -5);
        x = new DialogueGames();
        x.begin(parse(x, BEYOND_SEARCH), 1, 0);
        due("p27 limit", x.bestMove(), -6);
        x.begin(parse(x, "p>p"), 1, 0);
        due("p27 the win", x.bestMove(), 0);
        x.play(0, 0);
        due("p27 over", x.bestMove(), -7);
    }

    private static void p28HardestReply() {
        DialogueGames x = new DialogueGames();
        due("p28 not begun", x.hardestReply(-1), -7);
        int f = parse(x, "((p>q)>p)>p");
        x.begin(f, 0, 0);
        due("p28 without a rank", x.hardestReply(0), 0);
        due("p28 no such move", x.hardestReply(1), -5);
        due("p28 no such move", x.hardestReply(-1), -5);
        due("p28 no such move", x.hardestReply(LOW), -5);
        x.begin(parse(x, "p>p"), 0, 0);
        due("p28 no reply", x.hardestReply(0), -5);
        x.play(0, 0);
        due("p28 over", x.hardestReply(0), -7);
        x.begin(parse(x, "p>p&(q>q)"), 0, 0);
        due("p28 the highest rank", x.hardestReply(0), 1);
        x.begin(parse(x, "p>(q>q)&p"), 0, 0);
        due("p28 the highest rank", x.hardestReply(0), 0);
        x.begin(parse(x, "p>p&p"), 0, 0);
        due("p28 the first of equals", x.hardestReply(0), 0);
        x.begin(parse(x, "p>p&q"), 0, 0);
        due("p28 the one without a rank", x.hardestReply(0), 1);
        x.begin(parse(x, "p|q>r"), 0, 0);
        due("p28 the first without a rank", x.hardestReply(0), 0);
        x.begin(parse(x, "q&(p|q)>(r>r)"), 0, 0);
        x.play(1, 0);
        x.play(3, 0);
        due("p28 the present position has its rank too", x.hardestReply(1), 0);
        x.play(1, 1);
        due("p28 for it came back", x.positionRank(), 2);
        x = new DialogueGames();
        x.begin(parse(x, BEYOND_SEARCH), 1, 0);
        due("p28 limit before move", x.hardestReply(99), -6);
    }

    private static void p29Allocate() {
        DialogueGames x = new DialogueGames();
        for (int type = 0; type < 4; type++) due("p29 type " + type, x.allocate(type, type, 40), 40);
        due("p29 size 0", x.allocate(0, 0, 0), 0);
        due("p29 an empty array is an array", x.release(0), 1);
        due("p29 slot 4", x.allocate(4, 0, 1), -1);
        due("p29 slot -1", x.allocate(-1, 0, 1), -1);
        due("p29 type 4", x.allocate(0, 4, 1), -1);
        due("p29 type -1", x.allocate(0, -1, 1), -1);
        due("p29 size 41", x.allocate(0, 0, 41), -1);
        due("p29 size huge", x.allocate(0, 0, HIGH), -1);
        due("p29 negative", x.allocate(0, 0, -1), -14);
        due("p29 very negative", x.allocate(0, 0, LOW), -14);
        due("p29 bad slot first", x.allocate(9, 0, -1), -1);
        due("p29 bad type first", x.allocate(0, 9, -1), -1);
        due("p29 nothing was stored", x.release(0), 0);
        x.allocate(1, 1, 3);
        x.putElement(1, 2, 5);
        due("p29 an error leaves the array", x.allocate(1, 1, -5), -14);
        due("p29 an error leaves the array", x.element(1, 2), 5);
        due("p29 a new one", x.allocate(1, 3, 3), 3);
        due("p29 is filled with 0", x.element(1, 2), 0);
        x.allocate(1, 1, 3);
        due("p29 longs are filled with 0", x.element(1, 2), 0);
        x.allocate(1, 3, 3);
        x.putElement(1, 0, 1);
        x.compute(1, 0, 0, 0);
        x.allocate(1, 3, 3);
        due("p29 nothing of an infinity", x.element(1, 0), 0);
        x.compute(1, 0, 0, 3);
        due("p29 and it is a number", x.element(1, 0), 0);
    }

    private static void p30Release() {
        DialogueGames x = new DialogueGames();
        due("p30 empty", x.release(3), 0);
        x.allocate(3, 2, 1);
        due("p30 held", x.release(3), 1);
        due("p30 empty again", x.release(3), 0);
        due("p30 slot 4", x.release(4), -1);
        due("p30 slot -1", x.release(-1), -1);
        due("p30 element", x.element(3, 0), NO_VALUE);
        due("p30 put", x.putElement(3, 0, 1), -11);
    }

    private static void p31PutElement() {
        DialogueGames x = new DialogueGames();
        for (int type = 0; type < 4; type++) x.allocate(type, type, 3);
        due("p31 byte", x.putElement(0, 0, 300), 1);
        due("p31 byte", x.element(0, 0), 44);
        x.putElement(0, 1, 128);
        due("p31 byte", x.element(0, 1), -128);
        x.putElement(0, 2, Long.MAX_VALUE);
        due("p31 byte", x.element(0, 2), -1);
        x.putElement(1, 0, Long.MIN_VALUE + 1);
        due("p31 long", x.element(1, 0), Long.MIN_VALUE + 1);
        x.putElement(2, 0, 16777217L);
        due("p31 float", x.element(2, 0), 16777216L);
        x.putElement(2, 1, (1L << 55) + (1L << 31) + 1);
        due("p31 float is rounded once", x.element(2, 1), (1L << 55) + (1L << 32));
        x.putElement(3, 0, (1L << 53) + 1);
        due("p31 double", x.element(3, 0), 1L << 53);
        x.putElement(3, 1, Long.MAX_VALUE);
        due("p31 double", x.element(3, 1), Long.MAX_VALUE);
        due("p31 slot first", x.putElement(4, -1, 0), -1);
        due("p31 slot", x.putElement(-1, 0, 0), -1);
        x.release(1);
        due("p31 empty before index", x.putElement(1, 9, 0), -11);
        due("p31 index", x.putElement(0, 3, 0), -13);
        due("p31 index", x.putElement(0, -1, 0), -13);
        due("p31 index", x.putElement(0, HIGH, 0), -13);
        due("p31 index", x.putElement(0, LOW, 0), -13);
        x.allocate(1, 0, 0);
        due("p31 no element", x.putElement(1, 0, 0), -13);
        x.compute(2, 2, 0, 0);
        x.putElement(2, 2, 6);
        due("p31 a number instead of NaN", x.element(2, 2), 6);
    }

    private static void p32Element() {
        DialogueGames x = new DialogueGames();
        due("p32 empty", x.element(0, 0), NO_VALUE);
        due("p32 slot", x.element(4, 0), NO_VALUE);
        due("p32 slot", x.element(-1, 0), NO_VALUE);
        x.allocate(0, 3, 2);
        due("p32 index", x.element(0, 2), NO_VALUE);
        due("p32 index", x.element(0, -1), NO_VALUE);
        due("p32 index", x.element(0, HIGH), NO_VALUE);
        x.putElement(0, 0, -7);
        x.compute(0, 0, 0, 2);
        due("p32 the fraction is dropped", x.element(0, 0), -3);
        x.compute(0, 0, 0, 0);
        due("p32 minus infinity", x.element(0, 0), Long.MIN_VALUE);
        x.compute(0, 0, 0, -1);
        due("p32 infinity", x.element(0, 0), Long.MAX_VALUE);
        x.compute(0, 0, 1, 5);
        due("p32 NaN", x.element(0, 0), 0);
        x.putElement(0, 1, Long.MIN_VALUE);
        x.compute(0, 1, 0, -1);
        due("p32 2 to the 63", x.element(0, 1), Long.MAX_VALUE);
    }

    private static void p33Compute() {
        DialogueGames x = new DialogueGames();
        due("p33 slot first", x.compute(4, 0, 0, 1), -1);
        due("p33 slot", x.compute(-1, 0, 0, 1), -1);
        due("p33 operation before empty", x.compute(0, 0, 2, 1), -1);
        due("p33 operation", x.compute(0, 0, -1, 1), -1);
        due("p33 empty", x.compute(0, 0, 0, 1), -11);
        x.allocate(0, 0, 2);
        x.allocate(1, 1, 2);
        x.allocate(2, 2, 2);
        x.allocate(3, 3, 2);
        due("p33 bytes before index", x.compute(0, 9, 0, 1), -12);
        due("p33 longs", x.compute(1, 0, 1, 1), -12);
        due("p33 index", x.compute(2, 2, 0, 1), -13);
        due("p33 index", x.compute(3, -1, 1, 0), -13);
        x.putElement(3, 0, 10);
        due("p33 divide", x.compute(3, 0, 0, 4), 1);
        due("p33 2.5", x.element(3, 0), 2);
        x.compute(3, 0, 1, 1);
        x.compute(3, 0, 0, Integer.MIN_VALUE);
        x.compute(3, 0, 0, 0);
        due("p33 a small negative number", x.element(3, 0), Long.MIN_VALUE);
        x.putElement(3, 0, 1);
        for (int k = 0; k < 40; k++) x.compute(3, 0, 0, HIGH);
        x.compute(3, 0, 0, 0);
        due("p33 so small that it is 0", x.element(3, 0), 0);
        x.putElement(2, 0, 1);
        for (int k = 0; k < 5; k++) x.compute(2, 0, 0, LOW);
        x.compute(2, 0, 0, 0);
        due("p33 0 among floats", x.element(2, 0), 0);
        x.putElement(2, 0, 1);
        for (int k = 0; k < 4; k++) x.compute(2, 0, 0, LOW);
        x.compute(2, 0, 0, 0);
        due("p33 not yet 0 among floats", x.element(2, 0), Long.MAX_VALUE);
        x.putElement(2, 1, 1L << 62);
        x.compute(2, 1, 0, 16777217);
        due("p33 the operand is made a float", x.element(2, 1), 1L << 38);
        x.putElement(3, 1, 5);
        x.compute(3, 1, 0, 0);
        x.compute(3, 1, 0, 0);
        due("p33 infinity by 0", x.element(3, 1), Long.MAX_VALUE);
        x.compute(3, 1, 1, 0);
        x.compute(3, 1, 0, 7);
        due("p33 NaN stays", x.element(3, 1), 0);
        x.compute(3, 1, 0, 0);
        due("p33 NaN by 0", x.element(3, 1), 0);
        x.compute(3, 1, 0, -1);
        due("p33 NaN by -1", x.element(3, 1), 0);
        x.compute(3, 1, 1, 2);
        due("p33 NaN by %", x.element(3, 1), 0);
    }

    private static void p33Remainder() {
        DialogueGames x = new DialogueGames();
        x.allocate(0, 2, 1);
        x.allocate(1, 3, 1);
        long[] values = {0, 1, -1, 7, -7, 1L << 24, (1L << 53) - 1, Long.MAX_VALUE, Long.MIN_VALUE, 123456789012345678L, -987654321098765432L};
        int[] operands = {1, -1, 2, 3, -3, 7, 10, 1000, 16777217, HIGH, LOW, HIGH - 1, 0};
        int[] divisors = {1, 3, -7, 1000, 999999937};
        for (long value : values) {
            for (int operand : operands) {
                for (int divisor : divisors) {
                    float f = (float) value / divisor % operand;
                    double d = (double) value / divisor % operand;
                    for (int slot = 0; slot < 2; slot++) {
                        x.putElement(slot, 0, value);
                        x.compute(slot, 0, 0, divisor);
                        x.compute(slot, 0, 1, operand);
                    }
                    String what = "p33 " + value + " / " + divisor + " % " + operand;
                    due(what + " float", x.element(0, 0), (long) f);
                    due(what + " double", x.element(1, 0), (long) d);
                    for (int slot = 0; slot < 2; slot++) {
                        x.compute(slot, 0, 1, 1);
                        x.compute(slot, 0, 0, 3);
                        x.compute(slot, 0, 0, 0);
                    }
                    due(what + " fraction of a float", x.element(0, 0), (long) (f % 1 / 3 / 0));
                    due(what + " fraction of a double", x.element(1, 0), (long) (d % 1 / 3 / 0));
                }
            }
        }
    }

    private static void p34CopyElements() {
        DialogueGames x = new DialogueGames();
        due("p34 source", x.copyElements(4, 0, 0, 0, 0), -1);
        due("p34 target", x.copyElements(0, 0, -1, 0, 0), -1);
        due("p34 both empty", x.copyElements(0, 0, 1, 0, 0), -11);
        x.allocate(0, 1, 5);
        due("p34 target empty", x.copyElements(0, 0, 1, 0, 0), -11);
        due("p34 source empty", x.copyElements(1, 0, 0, 0, 0), -11);
        x.allocate(1, 3, 5);
        due("p34 types before indexes", x.copyElements(0, -1, 1, 9, -1), -12);
        x.allocate(1, 1, 3);
        for (int k = 0; k < 5; k++) x.putElement(0, k, k + 1);
        due("p34 copy", x.copyElements(0, 2, 1, 0, 3), 3);
        due("p34 first", x.element(1, 0), 3);
        due("p34 last", x.element(1, 2), 5);
        due("p34 within, upwards", x.copyElements(0, 0, 0, 1, 4), 4);
        for (int k = 1; k < 5; k++) due("p34 overlap", x.element(0, k), k);
        due("p34 within, downwards", x.copyElements(0, 1, 0, 0, 4), 4);
        for (int k = 0; k < 4; k++) due("p34 overlap", x.element(0, k), k + 1);
        due("p34 nothing at the end", x.copyElements(0, 5, 1, 3, 0), 0);
        due("p34 beyond the end", x.copyElements(0, 6, 1, 0, 0), -13);
        due("p34 beyond the target's end", x.copyElements(0, 0, 1, 4, 0), -13);
        due("p34 source end", x.copyElements(0, 3, 1, 0, 3), -13);
        due("p34 target end", x.copyElements(0, 0, 1, 1, 3), -13);
        due("p34 negative count", x.copyElements(0, 0, 1, 0, -1), -13);
        due("p34 negative index", x.copyElements(0, -1, 1, 0, 1), -13);
        due("p34 negative index", x.copyElements(0, 0, 1, -1, 1), -13);
        due("p34 sums beyond int", x.copyElements(0, HIGH, 1, 0, HIGH), -13);
        due("p34 sums beyond int", x.copyElements(0, 1, 1, 1, HIGH), -13);
        due("p34 sums beyond int", x.copyElements(0, LOW, 1, LOW, LOW), -13);
        x.allocate(2, 2, 2);
        x.allocate(3, 2, 2);
        x.putElement(2, 0, 1);
        x.compute(2, 0, 0, 0);
        x.putElement(3, 1, 9);
        x.compute(3, 1, 0, 0);
        x.compute(3, 1, 0, 0);
        due("p34 an infinity", x.copyElements(2, 0, 3, 0, 1), 1);
        due("p34 is copied", x.element(3, 0), Long.MAX_VALUE);
        x.putElement(2, 1, 4);
        x.copyElements(2, 1, 3, 1, 1);
        due("p34 over an infinity", x.element(3, 1), 4);
        x.allocate(0, 0, 2);
        x.allocate(1, 0, 2);
        x.putElement(0, 1, -128);
        x.copyElements(0, 0, 1, 0, 2);
        due("p34 bytes", x.element(1, 1), -128);
    }

    private static void store(DialogueGames x, int slot, int... values) {
        x.allocate(slot, 0, values.length);
        for (int k = 0; k < values.length; k++) x.putElement(slot, k, values[k]);
    }

    private static void p35Replay() {
        DialogueGames x = new DialogueGames();
        int f = parse(x, "p&q>q&p");
        due("p35 slot first", x.replay(4, 99, 9), -1);
        due("p35 slot", x.replay(-1, f, 0), -1);
        due("p35 empty", x.replay(0, 99, 9), -11);
        x.allocate(0, 1, 4);
        due("p35 longs", x.replay(0, 99, 9), -12);
        x.allocate(0, 3, 4);
        due("p35 doubles", x.replay(0, f, 0), -12);
        store(x, 0, 2, 0, 0, 0, 0, 77);
        due("p35 formula", x.replay(0, 99, 9), -2);
        due("p35 atom", x.replay(0, 0, 0), -1);
        due("p35 manner", x.replay(0, f, 2), -1);
        due("p35 nothing began", x.moveCount(), -7);
        due("p35 a win", x.replay(0, f, 0), 1003);
        due("p35 over", x.moveCount(), -7);
        due("p35 can be taken back", x.takeBack(), 2);
        store(x, 0, 2, 0, 0, 0, 0, 0, 0, 0);
        due("p35 stops at the win", x.replay(0, f, 0), 1003);
        store(x, 0, 2, 0, 0, 0, 0);
        due("p35 an odd element", x.replay(0, f, 0), 2);
        due("p35 the moves stay", x.takeBack(), 1);
        store(x, 0, 2, 0, 9, 0, 0, 0);
        due("p35 no such move", x.replay(0, f, 0), 1);
        due("p35 the one before stays", x.claims(), 18);
        store(x, 0, 2, 0, 0, 5, 0, 0);
        due("p35 no such reply", x.replay(0, f, 0), 1);
        store(x, 0, -1, 0);
        due("p35 negative move", x.replay(0, f, 0), 0);
        store(x, 0);
        due("p35 an empty array", x.replay(0, f, 0), 0);
        due("p35 the dialogue began", x.moveCount(), 3);
        store(x, 0, 5);
        due("p35 one element", x.replay(0, f, 0), 0);
        x.play(1, 0);
        due("p35 wrong replay leaves the dialogue", x.replay(0, f, 7), -1);
        due("p35 it is still there", x.takeBack(), 0);
        int[] many = new int[40];
        for (int k = 0; k < 40; k += 2) many[k] = 1;
        store(x, 0, many);
        due("p35 twenty moves", x.replay(0, f, 1), 20);
        due("p35 then full", x.play(1, 0), -3);
        int c = parse(x, "(p>p)&(q>q)");
        store(x, 1, 0, 0);
        due("p35 one move", x.replay(1, c, 0), 1);
        due("p35 the first attack is attack 0", x.claims(), 1);
    }
}
