/** The boundary cases that the document names for formulas, texts and words: promises 1 to 15. */
public final class FormulaBoundaryTest {
    private static final int LOW = Bench.LOW;
    private static final int HIGH = Bench.HIGH;
    private static final long NO_VALUE = Bench.NO_VALUE;

    public static void main(String[] args) {
        newWorkbench();
        atMostFortyFormulas();
        atomsAlwaysExist();
        existingOnesAreUsed();
        otherPartsAreOtherFormulas();
        partsHaveLowerNumbers();
        setsReachBit39();
        textsHaveNoSpaces();
        longestTexts();
        inputIsConsumed();
        inputIsLeftByOthers();
        resetKeepsAndDeletes();
        formulaCountFromFourToForty();
        appendValues();
        appendCounts();
        appendFull();
        appendChecksArgumentsFirst();
        clearInputFromNoneToForty();
        parseAllowsTheseBytesOnly();
        parsePositions();
        parseEndsTooEarly();
        parseFaultBeforeFull();
        parseFull();
        parseOrder();
        negateBounds();
        combineBounds();
        kindBounds();
        partBounds();
        sizeUpTo1000();
        subformulasBounds();
        truthTableBounds();
        isEquivalentBounds();
        transformWords();
        transformKinds();
        transformChecks();
        transformFull();
        transformOrder();
        Bench.finish();
    }

    private static void newWorkbench() {
        Bench.says("A new workbench has only the atoms. No dialogue is being played, and the input buffer is empty.");
        DialogueGames x = new DialogueGames();
        Bench.due("formulaCount", x.formulaCount(), 4);
        Bench.due("kind(3)", x.kind(3), 0);
        Bench.due("kind(4)", x.kind(4), -2);
        Bench.due("kind(-1)", x.kind(-1), -2);
        Bench.due("claims", x.claims(), NO_VALUE);
        Bench.due("defences", x.defences(), NO_VALUE);
        Bench.due("moveCount", x.moveCount(), -7);
        Bench.due("takeBack", x.takeBack(), -5);
        Bench.due("clearInput", x.clearInput(), 0);
        Bench.due("parse of nothing", x.parse(), -1000);
        Bench.due("transform by nothing", x.transform(0), -4);
        for (int slot = 0; slot < 4; slot++) Bench.due("release " + slot, x.release(slot), 0);
        Bench.due("a second object is new too", new DialogueGames().formulaCount(), 4);
    }

    private static void atMostFortyFormulas() {
        Bench.says("Formulas are numbered from 0; there are at most 40.");
        Bench.due("the 40th by negate", Bench.filledTo(39).negate(0), 39);
        Bench.due("the 40th by combine", Bench.filledTo(39).combine(2, 0, 0), 39);
        Bench.due("the 40th by parse", Bench.parse(Bench.filledTo(39), "~p"), 39);
        Bench.due("the 40th by transform", Bench.transform(Bench.filledTo(39), "negate", 0), 39);
        Bench.Maker full = () -> Bench.filledTo(40);
        Bench.refused("the 41st by negate", full, x -> x.negate(0), -3);
        Bench.refused("the 41st by combine", full, x -> x.combine(2, 0, 0), -3);
        Bench.refusedReading("the 41st by parse", full, x -> Bench.parse(x, "~p"), -3);
        Bench.refusedReading("the 41st by transform", full, x -> Bench.transform(x, "negate", 0), -3);
        DialogueGames x = Bench.filledTo(40);
        Bench.due("kind(39)", x.kind(39), 1);
        Bench.due("kind(40)", x.kind(40), -2);
    }

    private static void atomsAlwaysExist() {
        Bench.says("The formulas 0 to 3 are the atoms p, q, r and s; they always exist.");
        for (DialogueGames x : Bench.states()) {
            for (int round = 0; round < 2; round++) {
                for (int k = 0; k < 4; k++) {
                    Bench.due("kind " + k, x.kind(k), 0);
                    Bench.due("the atom " + k + " by its letter", Bench.parse(x, "" + (char) ('p' + k)), k);
                }
                x.reset();
            }
        }
    }

    private static void existingOnesAreUsed() {
        Bench.says("Where a formula is made that exists already, the existing one is used.");
        DialogueGames x = new DialogueGames();
        int c = x.combine(2, 0, 1);
        int d = x.combine(3, 2, 2);
        int i = x.combine(4, 0, 1);
        int n = x.negate(0);
        int m = x.negate(1);
        int contraposed = x.combine(4, m, n);
        int commuted = x.combine(2, 1, 0);
        Bench.fill(x, 40);
        Bench.due("negate when full", x.negate(0), n);
        Bench.due("combine when full", x.combine(2, 0, 1), c);
        Bench.due("combine when full", x.combine(4, 0, 1), i);
        Bench.due("parse when full", Bench.parse(x, "~q>~p"), contraposed);
        Bench.due("parse an atom when full", Bench.parse(x, "((r))"), 2);
        Bench.due("negate by word when full", Bench.transform(x, "negate", 1), m);
        Bench.due("double by word when full", Bench.transform(x, "double", 3), x.negate(x.negate(3)));
        Bench.due("commute by word when full", Bench.transform(x, "commute", c), commuted);
        Bench.due("commute equal parts when full", Bench.transform(x, "commute", d), d);
        Bench.due("contrapose by word when full", Bench.transform(x, "contrapose", i), contraposed);
        Bench.due("translate by word when full", Bench.transform(x, "translate", 3), x.negate(x.negate(3)));
        Bench.due("none was made", x.formulaCount(), 40);
    }

    private static void otherPartsAreOtherFormulas() {
        Bench.says("No two formulas have the same kind and the same parts.");
        DialogueGames x = new DialogueGames();
        int next = 4;
        for (int kind = 2; kind <= 4; kind++) {
            for (int a = 0; a < 2; a++) {
                for (int b = 0; b < 2; b++) Bench.due("combine " + kind + " " + a + " " + b, x.combine(kind, a, b), next++);
            }
        }
        Bench.due("negate 0", x.negate(0), next++);
        Bench.due("negate 1", x.negate(1), next++);
        next = 4;
        for (int kind = 2; kind <= 4; kind++) {
            for (int a = 0; a < 2; a++) {
                for (int b = 0; b < 2; b++) Bench.due("again " + kind + " " + a + " " + b, x.combine(kind, a, b), next++);
            }
        }
        Bench.due("after a reset the numbers begin anew", x.reset(), 18);
        Bench.due("and what was there is made anew", x.combine(4, 1, 1), 4);
    }

    private static void partsHaveLowerNumbers() {
        Bench.says("Every other formula has one or two parts, which are formulas with lower numbers.");
        DialogueGames x = new DialogueGames();
        Bench.parse(x, "(p>q|r)&~(s>p)>~~r|s&(q>p)");
        int f = Bench.parse(x, "p|q");
        Bench.transform(x, "translate", f);
        for (int k = 4; k < x.formulaCount(); k++) {
            int a = x.part(k, 0);
            int b = x.part(k, 1);
            Bench.due("part A of " + k + " is lower", a >= 0 && a < k ? 1 : 0, 1);
            Bench.due("part B of " + k + " is lower", x.kind(k) == 1 ? b : b >= 0 && b < k ? 1 : 0, x.kind(k) == 1 ? -5 : 1);
        }
    }

    private static void setsReachBit39() {
        Bench.says("A set of formulas is written as a long whose bit k is 1 if formula k is in the set.");
        DialogueGames x = Bench.filledTo(39);
        int last = x.combine(4, 38, 37);
        Bench.due("formula", last, 39);
        Bench.due("subformulas", x.subformulas(39), 8L + (1L << 40) - 16);
        x.begin(39, 0, 0);
        Bench.due("claims", x.claims(), 1L << 38);
        Bench.due("defences", x.defences(), 1L << 37);
        x = Bench.filledTo(39);
        x.begin(x.combine(2, 31, 32), 0, 0);
        Bench.due("bit 31 is no sign", x.defences(), 1L << 31);
        x.begin(39, 0, 1);
        Bench.due("bit 32 is no bit 0", x.defences(), 1L << 32);
        Bench.due("bit 0 alone", x.subformulas(0), 1);
    }

    private static void textsHaveNoSpaces() {
        Bench.says("There are no spaces.");
        Bench.due("before", Bench.parseNew(" p"), -1000);
        Bench.due("after", Bench.parseNew("p "), -1001);
        Bench.due("inside", Bench.parseNew("p& q"), -1002);
        Bench.due("inside", Bench.parseNew("p &q"), -1001);
        Bench.due("alone", Bench.parseNew(" "), -1000);
    }

    private static void longestTexts() {
        Bench.says("The input buffer holds up to 40 bytes.");
        String tail = "p";
        for (int k = 0; k < 18; k++) tail += "&p";
        DialogueGames x = new DialogueGames();
        Bench.due("a text of 40 bytes", Bench.parse(x, "~~p" + tail.substring(1) + "&"), -1040);
        Bench.due("~p, then 19 conjunctions in 40 bytes", Bench.parse(x, "~" + tail + "&q"), 23);
        Bench.due("grouped from the left", x.part(23, 1), 1);
        x = new DialogueGames();
        Bench.due("disjunctions", Bench.parse(x, "~" + tail.replace('&', '|') + "|q"), 23);
        Bench.due("grouped from the left", x.part(23, 1), 1);
        Bench.due("the innermost", x.part(5, 0), 4);
        x = new DialogueGames();
        Bench.due("implications", Bench.parse(x, "~" + tail.replace('&', '>') + ">q"), 23);
        Bench.due("grouped from the right", x.part(23, 0), 4);
        Bench.due("the innermost", x.part(5, 0) * 10 + x.part(5, 1), 1);
        Bench.due("39 bytes of parentheses", Bench.parseNew("(".repeat(19) + "s" + ")".repeat(19)), 3);
        Bench.due("40 bytes of parentheses", Bench.parseNew("~" + "(".repeat(19) + "s" + ")".repeat(19)), 4);
        Bench.due("one that is not closed", Bench.parseNew("(".repeat(20) + "s" + ")".repeat(19)), -1040);
        Bench.due("one that was not opened", Bench.parseNew("(".repeat(19) + "s" + ")".repeat(20)), -1039);
        Bench.due("negations in parentheses", Bench.parseNew("~(".repeat(13) + "r" + ")".repeat(13)), 16);
    }

    private static void inputIsConsumed() {
        Bench.says("The methods that read it consume its content, even if they return an error code.");
        String[] texts = {"p", "p&", "", "~p", "~p~"};
        int[] answers = {0, -1002, -1000, -3, -1002};
        for (int k = 0; k < texts.length; k++) {
            DialogueGames x = Bench.filledTo(40);
            Bench.due("parse " + texts[k], Bench.parse(x, texts[k]), answers[k]);
            Bench.due("left after " + texts[k], x.clearInput(), 0);
        }
        String[] words = {"negate", "negate", "negate", "commute", "negat", "", "nonsense"};
        int[] formulas = {3, 0, 40, 0, 0, 0, -1};
        int[] ends = {4, -3, -2, -4, -4, -4, -2};
        for (int k = 0; k < words.length; k++) {
            DialogueGames x = Bench.filledTo(40);
            Bench.due("transform by " + words[k], Bench.transform(x, words[k], formulas[k]), ends[k]);
            Bench.due("left after " + words[k], x.clearInput(), 0);
        }
        Bench.says("The input is consumed also if there is no such formula.");
        DialogueGames x = new DialogueGames();
        x.append(110, 40);
        Bench.due("transform(4)", x.transform(4), -2);
        Bench.due("all 40 bytes fit again", x.append(112, 40), 40);
        Bench.due("transform(LOW)", x.transform(LOW), -2);
        Bench.due("nothing is left", x.clearInput(), 0);
    }

    private static void inputIsLeftByOthers() {
        Bench.says("Only the methods that read the input buffer consume it.");
        DialogueGames x = Bench.busy();
        x.formulaCount();
        x.negate(0);
        x.negate(-1);
        x.combine(2, 0, 0);
        x.kind(0);
        x.part(4, 0);
        x.size(4);
        x.subformulas(4);
        x.truthTable(4);
        x.isEquivalent(0, 4);
        x.rank(4, 0);
        x.positionCount(4, 0);
        x.manners(4);
        x.claims();
        x.defences();
        x.moveCount();
        x.move(0, 0);
        x.positionRank();
        x.bestMove();
        x.hardestReply(0);
        x.takeBack();
        x.begin(4, 0, 0);
        x.play(0, 0);
        x.replay(0, 4, 0);
        x.element(0, 0);
        x.putElement(0, 0, 1);
        x.compute(2, 0, 1, 3);
        x.copyElements(0, 0, 0, 1, 1);
        x.allocate(1, 1, 1);
        x.release(1);
        x.append(128, 1);
        x.reset();
        Bench.due("the text is still there", x.parse(), 5);
        Bench.due("with what it makes", x.kind(5) * 10 + x.kind(4), 31);
    }

    private static void resetKeepsAndDeletes() {
        Bench.says("Promise 2: deletes all formulas except the atoms, and ends the dialogue.");
        Bench.due("reset when new", new DialogueGames().reset(), 4);
        Bench.due("reset when full", Bench.filledTo(40).reset(), 40);
        DialogueGames x = Bench.crowded();
        Bench.due("reset when crowded", x.reset(), 40);
        Bench.due("reset again", x.reset(), 4);
        for (int k = 4; k < 40; k++) Bench.due("kind " + k, x.kind(k), -2);
        Bench.due("claims", x.claims(), NO_VALUE);
        Bench.due("moveCount", x.moveCount(), -7);
        Bench.due("play", x.play(0, 0), -7);
        Bench.due("the room is free again", x.negate(0), 4);
        Bench.fill(x, 40);
        Bench.due("up to 40", x.formulaCount(), 40);
        Bench.says("A dialogue that a reset replaced has no moves that could be taken back.");
        x = Bench.busy();
        x.reset();
        Bench.due("takeBack", x.takeBack(), -5);
        x = Bench.over();
        x.reset();
        Bench.due("takeBack after a win", x.takeBack(), -5);
        Bench.says("Promise 2: the input buffer and the array slots stay.");
        x = Bench.crowded();
        x.reset();
        for (int slot = 0; slot < 4; slot++) {
            Bench.due("first of slot " + slot, x.element(slot, 0), 11 + slot);
            Bench.due("last of slot " + slot, x.element(slot, 39), 21 + slot);
            Bench.due("size of slot " + slot, Bench.sizeOf(x, slot), 40);
        }
        Bench.due("the 40 bytes", x.clearInput(), 40);
        x = new DialogueGames();
        x.reset();
        Bench.due("an empty slot stays empty", x.release(0), 0);
        Bench.due("an empty buffer stays empty", x.clearInput(), 0);
    }

    private static void formulaCountFromFourToForty() {
        Bench.says("Promise 3: the number of formulas, including the atoms.");
        DialogueGames x = new DialogueGames();
        int last = 0;
        for (int k = 4; k < 40; k++) {
            Bench.due("before the next", x.formulaCount(), k);
            last = x.negate(last);
        }
        Bench.due("full", x.formulaCount(), 40);
        x.negate(last);
        Bench.due("after a refused one", x.formulaCount(), 40);
    }

    private static void appendValues() {
        Bench.says("Promise 4: the byte, 0 to 127.");
        for (int value = 0; value <= 127; value++) Bench.due("append " + value, new DialogueGames().append(value, 1), 1);
        int[] refused = {-1, 128, -128, 255, 256, 256 + 112, 112 - 256, 65536 + 112, LOW, HIGH};
        for (int value : refused) Bench.refused("append " + value, Bench::busy, x -> x.append(value, 1), -1);
        DialogueGames x = new DialogueGames();
        x.append(112, 1);
        x.append(0, 1);
        Bench.due("byte 0 is a byte", x.parse(), -1001);
        x.append(112, 1);
        x.append(127, 1);
        Bench.due("byte 127 is a byte", x.parse(), -1001);
        x.append(0, 1);
        Bench.due("byte 0 does not end a text", x.clearInput(), 1);
    }

    private static void appendCounts() {
        Bench.says("Promise 4: how often it is appended, 1 to 40.");
        for (int count = 1; count <= 40; count++) {
            DialogueGames x = new DialogueGames();
            Bench.due("append " + count + " times", x.append(112, count), count);
            Bench.due("held", x.clearInput(), count);
        }
        int[] refused = {0, -1, -40, 41, 42, 256, 257, 65537, LOW, LOW + 1, HIGH};
        for (int count : refused) {
            Bench.refused("append " + count + " times", DialogueGames::new, x -> x.append(112, count), -1);
            Bench.refused("append " + count + " times", Bench::busy, x -> x.append(112, count), -1);
        }
    }

    private static void appendFull() {
        Bench.says("Promise 4: FULL if the buffer would hold more than 40 bytes, in which case nothing is appended.");
        for (int held = 1; held <= 40; held++) {
            int before = held;
            Bench.Maker maker = () -> {
                DialogueGames x = new DialogueGames();
                x.append(126, before);
                return x;
            };
            Bench.refused("one too many on " + held, maker, x -> x.append(112, 41 - before), -3);
            Bench.refused("40 on " + held, maker, x -> x.append(112, 40), -3);
            if (held < 40) Bench.due("the last that fits on " + held, maker.make().append(112, 40 - held), 40);
        }
        DialogueGames x = new DialogueGames();
        x.append(126, 39);
        Bench.due("two on 39", x.append(112, 2), -3);
        Bench.due("not even one was appended", x.append(41, 1), 40);
        Bench.due("so the 40th is the next", x.parse(), -1039);
    }

    private static void appendChecksArgumentsFirst() {
        Bench.says("Promise 4: BAD_ARGUMENT if an argument is out of range (checked first).");
        int[][] both = {{-1, 1}, {128, 1}, {112, 0}, {112, 41}, {112, -1}, {LOW, HIGH}, {HIGH, LOW}, {128, 41}};
        for (int[] a : both) Bench.refused("append " + a[0] + " " + a[1] + " when full", Bench::crowded, x -> x.append(a[0], a[1]), -1);
        Bench.refused("and FULL where they are in range", Bench::crowded, x -> x.append(127, 40), -3);
    }

    private static void clearInputFromNoneToForty() {
        Bench.says("Promise 5: empties the input buffer; returns the number of bytes it held.");
        for (int held = 1; held <= 40; held++) {
            DialogueGames x = new DialogueGames();
            x.append(112, held);
            Bench.due("held " + held, x.clearInput(), held);
            Bench.due("then none", x.clearInput(), 0);
            Bench.due("and 40 fit", x.append(113, 40), 40);
        }
        Bench.due("none", new DialogueGames().clearInput(), 0);
        DialogueGames x = new DialogueGames();
        x.append(112, 40);
        x.clearInput();
        Bench.due("an empty text", x.parse(), -1000);
    }

    private static void parseAllowsTheseBytesOnly() {
        Bench.says("Promise 6: the position of the first byte that no formula can have there.");
        // beginnings, and for each the bytes that may follow
        String[] begins = {"", "~", "(", "((", "p&", "p|", "p>", "(p&", "~(", "p", "~p", "(p)", "(p", "((p)", "p&q", "p>(q"};
        String operand = "pqrs~(";
        for (String begin : begins) {
            boolean wants = begin.isEmpty() || "~(&|>".indexOf(begin.charAt(begin.length() - 1)) >= 0;
            long open = begin.chars().filter(c -> c == '(').count() - begin.chars().filter(c -> c == ')').count();
            String allowed = wants ? operand : open > 0 ? "&|>)" : "&|>";
            for (int sign = 0; sign <= 127; sign++) {
                DialogueGames x = new DialogueGames();
                Bench.write(x, begin);
                x.append(sign, 1);
                // a byte that no formula can have at all shows whether the one before it was taken
                x.append(33, 1);
                boolean taken = allowed.indexOf((char) sign) >= 0;
                Bench.due("byte " + sign + " after '" + begin + "'", x.parse(), -1000 - begin.length() - (taken ? 1 : 0));
                Bench.due("formulas", x.formulaCount(), 4);
            }
        }
    }

    private static void parsePositions() {
        Bench.says("Promise 6: -1000 minus the position, from 0.");
        for (int at = 0; at < 40; at++) {
            Bench.due("a wrong byte at " + at, Bench.parseNew("~".repeat(at) + "x"), -1000 - at);
            Bench.due("a wrong byte at " + at + " and more after it", Bench.parseNew("(".repeat(at) + "x".repeat(40 - at)), -1000 - at);
        }
        Bench.due("the first of two", Bench.parseNew("p)q)"), -1001);
        Bench.due("a closing one too many", Bench.parseNew("(p))"), -1003);
        Bench.due("nothing in parentheses", Bench.parseNew("()"), -1001);
        Bench.due("a negation after a formula", Bench.parseNew("p~"), -1001);
    }

    private static void parseEndsTooEarly() {
        Bench.says("Promise 6: the length of the text if it ends too early.");
        Bench.due("0 bytes", Bench.parseNew(""), -1000);
        for (int length = 1; length <= 40; length++) {
            Bench.due(length + " parentheses", Bench.parseNew("(".repeat(length)), -1000 - length);
            Bench.due(length + " negations", Bench.parseNew("~".repeat(length)), -1000 - length);
        }
        String[] texts = {"p&", "p|", "p>", "(p", "(p&q", "((p)", "~(p", "p&q|r>s>"};
        for (String text : texts) Bench.due(text, Bench.parseNew(text), -1000 - text.length());
    }

    private static void parseFaultBeforeFull() {
        Bench.says("Promise 6: -1000 minus the position if the text is not a formula (checked first).");
        Bench.Maker full = () -> Bench.filledTo(40);
        Bench.refusedReading("a fault at the end", full, x -> Bench.parse(x, "~p&~q)"), -1005);
        Bench.refusedReading("too early", full, x -> Bench.parse(x, "~p&~q>"), -1006);
        Bench.refusedReading("no fault", full, x -> Bench.parse(x, "~p&~q"), -3);
        Bench.refusedReading("38 negations and a fault", DialogueGames::new, x -> Bench.parse(x, "~".repeat(38) + "p)"), -1039);
        Bench.refusedReading("38 negations", DialogueGames::new, x -> Bench.parse(x, "~".repeat(38) + "p"), -3);
    }

    private static void parseFull() {
        Bench.says("Promise 6: FULL if there would be more than 40 formulas, in which case none is made.");
        Bench.due("36 new ones fit", Bench.parseNew("~".repeat(36) + "p"), 39);
        Bench.refusedReading("37 do not", DialogueGames::new, x -> Bench.parse(x, "~".repeat(37) + "p"), -3);
        String[] texts = {"~p", "~p&q", "~p&q|r", "~p&q|r>p", "~(~p&q|r>p)"};
        for (int k = 0; k < texts.length; k++) {
            int need = k + 1;
            String text = texts[k];
            Bench.due(text + " fits", Bench.parse(Bench.filledTo(40 - need), text), 39);
            Bench.refusedReading(text + " does not", () -> Bench.filledTo(41 - need), x -> Bench.parse(x, text), -3);
        }
        DialogueGames x = new DialogueGames();
        x.combine(2, 0, 1);
        Bench.fill(x, 38);
        Bench.due("existing ones need no room", Bench.parse(x, "p&q|(p&q>r)"), 39);
        Bench.due("equal ones need room once", Bench.parse(Bench.filledTo(38), "~p&~p"), 39);
        x = Bench.filledTo(39);
        Bench.due("two do not fit", Bench.parse(x, "~p&q"), -3);
        Bench.due("so that the place is still free", Bench.parse(x, "r|r"), 39);
        Bench.due("and what was not made is not there", Bench.parse(x, "~p"), -3);
    }

    private static void parseOrder() {
        Bench.says("Promise 6: subformulas in the order in which their texts end; of two that end at the same byte, the one that begins later is made first.");
        DialogueGames x = new DialogueGames();
        Bench.due("p>~q", Bench.parse(x, "p>~q"), 5);
        Bench.due("~q ends where the whole ends", x.kind(4), 1);
        x = new DialogueGames();
        Bench.due("p|q&~r>s>~~p", Bench.parse(x, "p|q&~r>s>~~p"), 10);
        int[] kinds = {1, 2, 3, 1, 1, 4, 4};
        for (int k = 0; k < 7; k++) Bench.due("kind of " + (4 + k), x.kind(4 + k), kinds[k]);
        Bench.due("s>~~p", x.part(9, 0), 3);
        Bench.says("The parentheses around a formula are not part of its text.");
        x = new DialogueGames();
        Bench.due("((p&q))|((~r))", Bench.parse(x, "((p&q))|((~r))"), 6);
        Bench.due("p&q", x.kind(4), 2);
        Bench.due("~r", x.kind(5), 1);
        x = new DialogueGames();
        Bench.due("the same text in parentheses", Bench.parse(x, "(p>q)"), 4);
        Bench.due("and without", Bench.parse(x, "p>q"), 4);
    }

    private static void negateBounds() {
        Bench.says("Promise 7: NO_SUCH_FORMULA (checked first); FULL if it does not exist and there are 40 formulas.");
        for (int formula : Bench.WILD) {
            Bench.refused("negate " + formula, DialogueGames::new, x -> x.negate(formula), -2);
            Bench.refused("negate " + formula + " when full", Bench::crowded, x -> x.negate(formula), -2);
        }
        Bench.refused("the first that is not there", DialogueGames::new, x -> x.negate(4), -2);
        Bench.refused("the first that can never be there", Bench::crowded, x -> x.negate(40), -2);
        Bench.refused("the last one when full", () -> Bench.filledTo(40), x -> x.negate(39), -3);
        Bench.due("the last but one when full", Bench.filledTo(40).negate(38), 39);
        Bench.due("the first atom", new DialogueGames().negate(0), 4);
        Bench.due("the last formula", Bench.filledTo(39).negate(38), 39);
    }

    private static void combineBounds() {
        Bench.says("Promise 8: BAD_ARGUMENT if the kind is out of range (checked first).");
        for (int kind = 2; kind <= 4; kind++) Bench.due("kind " + kind, new DialogueGames().combine(kind, 0, 3), 4);
        int[] kinds = {LOW, -1, 0, 1, 5, 6, 258, HIGH};
        for (int kind : kinds) {
            Bench.refused("kind " + kind, Bench::busy, x -> x.combine(kind, 0, 0), -1);
            Bench.refused("kind " + kind + " before the parts", Bench::busy, x -> x.combine(kind, -1, 40), -1);
            Bench.refused("kind " + kind + " before FULL", Bench::crowded, x -> x.combine(kind, 0, 0), -1);
        }
        Bench.says("Promise 8: NO_SUCH_FORMULA (checked second).");
        for (int formula : Bench.WILD) {
            Bench.refused("first " + formula, Bench::busy, x -> x.combine(2, formula, 0), -2);
            Bench.refused("second " + formula, Bench::busy, x -> x.combine(4, 0, formula), -2);
            Bench.refused("both " + formula + " before FULL", Bench::crowded, x -> x.combine(3, formula, formula), -2);
        }
        Bench.refused("first not there yet", DialogueGames::new, x -> x.combine(2, 4, 0), -2);
        Bench.refused("second not there yet", DialogueGames::new, x -> x.combine(2, 0, 4), -2);
        Bench.refused("second 40 when full", Bench::crowded, x -> x.combine(2, 0, 40), -2);
        Bench.says("Promise 8: FULL if it does not exist and there are 40 formulas.");
        Bench.due("the last parts", Bench.filledTo(39).combine(4, 38, 38), 39);
        Bench.refused("a new one when full", () -> Bench.filledTo(40), x -> x.combine(4, 39, 39), -3);
        DialogueGames x = new DialogueGames();
        x.combine(3, 3, 0);
        Bench.fill(x, 40);
        Bench.due("an existing one when full", x.combine(3, 3, 0), 4);
        Bench.due("its parts exchanged are new", x.combine(3, 0, 3), -3);
    }

    private static void kindBounds() {
        Bench.says("Promise 9: the kind, 0 to 4; NO_SUCH_FORMULA.");
        DialogueGames x = new DialogueGames();
        x.negate(0);
        x.combine(2, 0, 0);
        x.combine(3, 0, 0);
        x.combine(4, 0, 0);
        int[] kinds = {0, 0, 0, 0, 1, 2, 3, 4, -2};
        for (int k = 0; k < kinds.length; k++) Bench.due("kind of " + k, x.kind(k), kinds[k]);
        for (int formula : Bench.WILD) Bench.refused("kind of " + formula, Bench::crowded, y -> y.kind(formula), -2);
        Bench.due("kind of 39 when full", Bench.filledTo(40).kind(39), 1);
        Bench.refused("kind of 40 when full", Bench::crowded, y -> y.kind(40), -2);
        Bench.refused("kind of 39 with 39 formulas", () -> Bench.filledTo(39), y -> y.kind(39), -2);
    }

    private static void partBounds() {
        Bench.says("Promise 10: NO_SUCH_FORMULA (checked first); BAD_ARGUMENT if which is out of range (checked second).");
        int[] whiches = {LOW, -1, 2, 3, 256, HIGH};
        for (int which : whiches) {
            Bench.refused("no formula, which " + which, Bench::busy, x -> x.part(40, which), -2);
            Bench.refused("a conjunction, which " + which, Bench::busy, x -> x.part(4, which), -1);
            Bench.refused("an atom, which " + which, Bench::busy, x -> x.part(0, which), -1);
        }
        for (int formula : Bench.WILD) {
            Bench.refused("part A of " + formula, Bench::busy, x -> x.part(formula, 0), -2);
            Bench.refused("part B of " + formula, Bench::busy, x -> x.part(formula, 1), -2);
        }
        Bench.says("Promise 10: NONE if the formula has no such part.");
        DialogueGames x = Bench.filledTo(39);
        x.combine(4, 38, 0);
        for (int atom = 0; atom < 4; atom++) {
            Bench.due("part A of atom " + atom, x.part(atom, 0), -5);
            Bench.due("part B of atom " + atom, x.part(atom, 1), -5);
        }
        Bench.due("part A of a negation", x.part(38, 0), 37);
        Bench.due("part B of a negation", x.part(38, 1), -5);
        Bench.due("part A of the last", x.part(39, 0), 38);
        Bench.due("part B of the last, which is formula 0", x.part(39, 1), 0);
        Bench.due("one after the last", x.part(40, 0), -2);
    }

    private static void sizeUpTo1000() {
        Bench.says("Promise 11: the size, but at most 1000.");
        DialogueGames x = new DialogueGames();
        int[] doubled = new int[9];
        for (int k = 1; k < 9; k++) doubled[k] = x.combine(2, doubled[k - 1], doubled[k - 1]);
        Bench.due("511", x.size(doubled[8]), 511);
        int f = x.combine(3, doubled[4], doubled[2]);
        for (int k = 5; k <= 8; k++) f = x.combine(3, doubled[k], f);
        Bench.due("999", x.size(f), 999);
        Bench.due("999 and 1", x.size(x.negate(f)), 1000);
        Bench.due("1000 and 1", x.size(x.negate(x.negate(f))), 1000);
        Bench.due("999 with an atom", x.size(x.combine(4, f, 0)), 1000);
        Bench.due("999 twice", x.size(x.combine(4, f, f)), 1000);
        x = new DialogueGames();
        int last = 0;
        for (int k = 0; k < 36; k++) last = x.combine(2, last, last);
        Bench.due("more than an int can count", x.size(last), 1000);
        Bench.due("atom", x.size(3), 1);
        DialogueGames small = new DialogueGames();
        Bench.due("a negation of an atom", small.size(small.negate(3)), 2);
        Bench.due("a conjunction of atoms", small.size(small.combine(2, 0, 0)), 3);
        Bench.due("35 negations", Bench.filledTo(39).size(38), 36);
        for (int formula : Bench.WILD) Bench.refused("size of " + formula, Bench::crowded, y -> y.size(formula), -2);
        Bench.refused("size of 40", Bench::crowded, y -> y.size(40), -2);
        Bench.refused("size of 4 when new", DialogueGames::new, y -> y.size(4), -2);
    }

    private static void subformulasBounds() {
        Bench.says("Promise 12: the set of the subformulas; NO_VALUE if there is no such formula.");
        DialogueGames x = new DialogueGames();
        int last = x.combine(2, x.combine(2, x.combine(2, 0, 1), 2), 3);
        while (x.formulaCount() < 40) last = x.negate(last);
        Bench.due("all 40", x.subformulas(39), (1L << 40) - 1);
        Bench.due("all but the last", x.subformulas(38), (1L << 39) - 1);
        Bench.due("an atom", x.subformulas(3), 8);
        Bench.refused("40", Bench::crowded, y -> y.subformulas(40), NO_VALUE);
        Bench.refused("4 when new", DialogueGames::new, y -> y.subformulas(4), NO_VALUE);
        for (int formula : Bench.WILD) Bench.refused("of " + formula, Bench::crowded, y -> y.subformulas(formula), NO_VALUE);
    }

    private static void truthTableBounds() {
        Bench.says("Promise 13: the table as 16 bits; NO_SUCH_FORMULA.");
        DialogueGames x = new DialogueGames();
        Bench.due("no row", x.truthTable(Bench.parse(x, "s&~s")), 0);
        Bench.due("all rows", x.truthTable(Bench.parse(x, "~(s&~s)")), 65535);
        Bench.due("all rows by an implication", x.truthTable(Bench.parse(x, "s>s")), 65535);
        Bench.due("none again", x.truthTable(Bench.parse(x, "~(s>s)")), 0);
        Bench.due("row 15 alone", x.truthTable(Bench.parse(x, "p&q&r&s")), 32768);
        Bench.due("row 0 alone", x.truthTable(Bench.parse(x, "~(p|q|r|s)")), 1);
        int[] atoms = {0xAAAA, 0xCCCC, 0xF0F0, 0xFF00};
        for (int k = 0; k < 4; k++) Bench.due("atom " + k, x.truthTable(k), atoms[k]);
        Bench.refused("40", Bench::crowded, y -> y.truthTable(40), -2);
        Bench.refused("4 when new", DialogueGames::new, y -> y.truthTable(4), -2);
        for (int formula : Bench.WILD) Bench.refused("of " + formula, Bench::crowded, y -> y.truthTable(formula), -2);
    }

    private static void isEquivalentBounds() {
        Bench.says("Promise 14: 1 or 0; NO_SUCH_FORMULA.");
        DialogueGames x = new DialogueGames();
        int none = Bench.parse(x, "p&~p");
        Bench.due("other only in row 15", x.isEquivalent(Bench.parse(x, "p&q&r&s"), none), 0);
        Bench.due("other only in row 0", x.isEquivalent(none, Bench.parse(x, "~(p|q|r|s)")), 0);
        Bench.due("the same rows", x.isEquivalent(none, Bench.parse(x, "~(s>s)")), 1);
        Bench.due("itself", x.isEquivalent(3, 3), 1);
        for (int formula : Bench.WILD) {
            Bench.refused("first " + formula, Bench::crowded, y -> y.isEquivalent(formula, 0), -2);
            Bench.refused("second " + formula, Bench::crowded, y -> y.isEquivalent(0, formula), -2);
            Bench.refused("the same that is not there", Bench::crowded, y -> y.isEquivalent(formula, formula), -2);
        }
        Bench.refused("first 40", Bench::crowded, y -> y.isEquivalent(40, 39), -2);
        Bench.refused("second 40", Bench::crowded, y -> y.isEquivalent(39, 40), -2);
        Bench.due("the last two", Bench.filledTo(40).isEquivalent(39, 37), 1);
    }

    private static void transformWords() {
        Bench.says("Promise 15: BAD_INPUT if the input buffer does not hold one of these words.");
        String[] words = {"negate", "double", "commute", "contrapose", "translate"};
        for (String word : words) {
            String[] bad = {word.substring(1), word.substring(0, word.length() - 1), word + "s", word + " ", " " + word, word + word,
                word.toUpperCase(), word.substring(0, 1).toUpperCase() + word.substring(1), word + (char) 0, word + "(".repeat(40 - word.length()),
                word.substring(0, word.length() - 1) + (char) (word.charAt(word.length() - 1) + 1)};
            for (String text : bad) {
                Bench.refusedReading(text + " on an implication", Bench::busy, x -> Bench.transform(x, text, 6), -4);
                Bench.refusedReading(text + " on a conjunction", Bench::busy, x -> Bench.transform(x, text, 4), -4);
            }
        }
        Bench.refusedReading("no byte", Bench::busy, x -> Bench.transform(x, "", 4), -4);
        Bench.refusedReading("40 bytes", Bench::busy, x -> Bench.transform(x, "n".repeat(40), 4), -4);
        Bench.refusedReading("a formula", Bench::busy, x -> Bench.transform(x, "p", 4), -4);
    }

    private static void transformKinds() {
        Bench.says("Promise 15: BAD_INPUT if the word does not apply to the formula.");
        Bench.Maker maker = () -> {
            DialogueGames x = new DialogueGames();
            x.negate(0);
            x.combine(2, 0, 1);
            x.combine(3, 0, 1);
            x.combine(4, 0, 1);
            return x;
        };
        int[] noCommute = {0, 3, 4, 7};
        for (int formula : noCommute) Bench.refusedReading("commute " + formula, maker, x -> Bench.transform(x, "commute", formula), -4);
        int[] noContrapose = {0, 3, 4, 5, 6};
        for (int formula : noContrapose) Bench.refusedReading("contrapose " + formula, maker, x -> Bench.transform(x, "contrapose", formula), -4);
        Bench.due("commute a conjunction", Bench.transform(maker.make(), "commute", 5), 8);
        Bench.due("commute a disjunction", Bench.transform(maker.make(), "commute", 6), 8);
        Bench.due("contrapose an implication", Bench.transform(maker.make(), "contrapose", 7), 9);
        for (int formula = 0; formula < 8; formula++) {
            int number = formula;
            Bench.due("negate " + formula, Bench.transform(maker.make(), "negate", number), number == 0 ? 4 : 8);
            Bench.due("double " + formula, Bench.transform(maker.make(), "double", number), number == 0 ? 8 : 9);
            Bench.due("translate " + formula, Bench.transform(maker.make(), "translate", number) >= 8 ? 1 : 0, 1);
        }
    }

    private static void transformChecks() {
        Bench.says("Promise 15: NO_SUCH_FORMULA (checked first); BAD_INPUT (checked second).");
        for (int formula : Bench.WILD) {
            Bench.refusedReading("a word, formula " + formula, Bench::busy, x -> Bench.transform(x, "negate", formula), -2);
            Bench.refusedReading("no word, formula " + formula, Bench::busy, x -> Bench.transform(x, "nothing", formula), -2);
            Bench.refusedReading("when full, formula " + formula, Bench::crowded, x -> Bench.transform(x, "double", formula), -2);
        }
        Bench.refusedReading("formula 40 when full", Bench::crowded, x -> Bench.transform(x, "translate", 40), -2);
        Bench.refusedReading("formula 4 when new", DialogueGames::new, x -> Bench.transform(x, "translate", 4), -2);
        Bench.refusedReading("no word when full", Bench::crowded, x -> Bench.transform(x, "negates", 0), -4);
        Bench.refusedReading("a word that does not apply when full", Bench::crowded, x -> Bench.transform(x, "commute", 0), -4);
        Bench.refusedReading("a word that applies when full", Bench::crowded, x -> Bench.transform(x, "negate", 0), -3);
    }

    /** A workbench with one formula of p and q, and negations of s up to a number of formulas. */
    private static DialogueGames withOne(int kind, int first, int second, int count) {
        DialogueGames x = new DialogueGames();
        if (kind == 1) x.negate(first);
        if (kind > 1) x.combine(kind, first, second);
        Bench.fill(x, count);
        return x;
    }

    private static void fits(String word, int kind, int first, int second, int need) {
        int formula = kind == 0 ? first : 4;
        String what = word + " of kind " + kind + " needs " + need;
        Bench.due(what + " and fits", Bench.transform(withOne(kind, first, second, 40 - need), word, formula), 39);
        Bench.refusedReading(what + " and does not fit", () -> withOne(kind, first, second, 41 - need), x -> Bench.transform(x, word, formula), -3);
        Bench.refusedReading(what + " and there is no room", () -> withOne(kind, first, second, 40), x -> Bench.transform(x, word, formula), -3);
    }

    private static void transformFull() {
        Bench.says("Promise 15: FULL if there would be more than 40 formulas, in which case none is made.");
        fits("negate", 0, 0, 0, 1);
        fits("negate", 4, 0, 1, 1);
        fits("double", 0, 0, 0, 2);
        fits("double", 3, 0, 1, 2);
        fits("commute", 2, 0, 1, 1);
        fits("commute", 3, 0, 1, 1);
        fits("contrapose", 4, 0, 1, 3);
        fits("contrapose", 4, 0, 0, 2);
        fits("translate", 0, 0, 0, 2);
        fits("translate", 1, 0, 0, 2);
        fits("translate", 2, 0, 1, 5);
        fits("translate", 4, 0, 1, 5);
        fits("translate", 3, 0, 1, 8);
        fits("translate", 3, 0, 0, 5);
        fits("translate", 2, 0, 0, 3);
        DialogueGames x = withOne(2, 0, 0, 40);
        Bench.due("commute to itself when full", Bench.transform(x, "commute", 4), 4);
        x = withOne(4, 0, 1, 38);
        Bench.due("contrapose does not fit", Bench.transform(x, "contrapose", 4), -3);
        Bench.due("so that the first place is free", x.negate(2), 38);
        Bench.due("and the second", x.negate(0), 39);
        Bench.due("and no third", x.negate(1), -3);
    }

    private static void transformOrder() {
        Bench.says("Promise 15: parts before the formulas that contain them, the part A with all that it needs before the part B, and each as soon as its parts exist.");
        DialogueGames x = new DialogueGames();
        x.combine(3, 1, 0);
        Bench.due("translate q|p", Bench.transform(x, "translate", 4), 12);
        int[] parts = {1, 5, 6, 0, 8, 9, 7, 11};
        for (int k = 0; k < 8; k++) Bench.due("part A of " + (5 + k), x.part(5 + k, 0), parts[k]);
        Bench.due("part B of the conjunction", x.part(11, 1), 10);
        x = new DialogueGames();
        x.combine(4, 0, 1);
        Bench.due("contrapose p>q", Bench.transform(x, "contrapose", 4), 7);
        Bench.due("~q is the part A and the first", x.part(5, 0), 1);
        Bench.due("~p is the second", x.part(6, 0), 0);
        Bench.due("~q>~p", x.part(7, 0) * 10 + x.part(7, 1), 56);
        x = new DialogueGames();
        int last = x.combine(2, 0, 0);
        for (int k = 0; k < 16; k++) last = x.combine(2, last, last);
        Bench.due("many ways to the same part", Bench.transform(x, "translate", last), 39);
        x = new DialogueGames();
        last = 0;
        for (int k = 0; k < 34; k++) last = x.negate(last);
        Bench.due("34 negations, translated, are two more", Bench.transform(x, "translate", last), 39);
        x = new DialogueGames();
        last = x.combine(2, 0, 0);
        for (int k = 0; k < 35; k++) last = x.combine(2, last, last);
        Bench.due("36 conjunctions do not fit", Bench.transform(x, "translate", last), -3);
        Bench.due("and none was made", x.formulaCount(), 40);
    }
}
