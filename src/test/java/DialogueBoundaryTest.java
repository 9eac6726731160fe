/** The boundary cases that the document names for ranks and dialogues: promises 16 to 28, and 35. */
public final class DialogueBoundaryTest {
    private static final int LOW = Bench.LOW;
    private static final int HIGH = Bench.HIGH;
    private static final long NO_VALUE = Bench.NO_VALUE;

    // counted by a search without a limit: the numbers of descendants in the manners 0 and 1
    private static final String HAS_300 = "(((s&q)&~r)&((p&s)&(r|p)))>(p|s)";
    private static final String HAS_301 = "(((r&q)&p)&((r|q)>(r&s)))>(((r&r)&p)>q)";
    private static final String HAS_301_AND_219 = "((~p>~q)&(p|(r&q)))>(((s>q)&~p)>~q)";
    private static final String HAS_152_AND_301 = "(r|((p|s)&(r>s)))>(((q>s)&~s)&s)";
    private static final String HAS_297 = "((~s&(s&s))&((q|r)|~q))>(~(p&s))";
    private static final String HAS_298 = "((~r&(q&r))&(s|(s>q)))>((~s&(q>s))>q)";

    /** The formula 6 of a new workbench: 4 is p&q, 5 is q&p. */
    private static final String SWAP = "p&q>q&p";

    public static void main(String[] args) {
        claimsOnlyGrow();
        defencesAreReplacedOrAdded();
        atomsAreClaimedOnlyIfClaimed();
        repliesToAttacks();
        repliesToClaims();
        noReplyWins();
        orderOfMoves();
        ranksFromOne();
        noPositionHelpsItself();
        longChains();
        searchLimitOfFormulas();
        searchLimitTogether();
        searchLimitOfDialogues();
        lastOf512Calls();
        details();
        rankChecks();
        positionCountChecks();
        mannersChecks();
        beginBounds();
        beginReplaces();
        notPlaying();
        positionWithoutMoves();
        moveBounds();
        playChecks();
        playTwentyMoves();
        playWinsAsTwentieth();
        takeBackBounds();
        bestMoveBounds();
        hardestReplyBounds();
        replayChecks();
        replayLengths();
        replayStops();
        replayTwentyMoves();
        replayReadsBytes();
        replayBegins();
        Bench.finish();
    }

    private static DialogueGames begun(String text, int manner, int attack) {
        DialogueGames x = new DialogueGames();
        x.begin(Bench.parse(x, text), manner, attack);
        return x;
    }

    private static void claimsOnlyGrow() {
        Bench.says("The opponent's claims form a set, which only grows.");
        DialogueGames x = begun(SWAP, 0, 0);
        Bench.due("at first", x.claims(), 16);
        Bench.due("ask for p", x.play(1, 0), 3);
        Bench.due("p", x.claims(), 17);
        Bench.due("ask for p again", x.play(1, 0), 3);
        Bench.due("the same set", x.claims(), 17);
        x.play(0, 0);
        Bench.due("an attack without a claim", x.claims(), 17);
        x = begun("~p", 0, 0);
        Bench.due("a negation's part", x.claims(), 1);
        Bench.due("no defence", x.defences(), 0);
        x = begun("p&q", 0, 0);
        Bench.due("no claim", x.claims(), 0);
    }

    private static void defencesAreReplacedOrAdded() {
        Bench.says("After an attack, the open defences are replaced in the manner 0; in the manner 1 those of the attack are added.");
        DialogueGames x = begun("p>~q|r", 0, 0);
        long first = x.defences();
        x.play(0, 0);
        Bench.due("replaced by both parts", x.defences(), 16 + 4);
        x.play(0, 0);
        Bench.due("replaced by none", x.defences(), 0);
        Bench.due("with nothing to do", x.moveCount(), 0);
        x = begun("p>~q|r", 1, 0);
        Bench.due("the same at first", x.defences(), first);
        x.play(0, 0);
        Bench.due("both parts are added", x.defences(), first | 16 | 4);
        x.play(0, 0);
        Bench.due("none is added", x.defences(), first | 16 | 4);
        x = begun("p|p", 0, 0);
        Bench.due("equal parts are one defence", x.defences(), 1);
        Bench.says("A reply in which the opponent only claims something leaves the open defences as they are.");
        for (int manner = 0; manner < 2; manner++) {
            x = begun("p|q>r|s", manner, 0);
            long open = x.defences();
            x.play(1, 1);
            Bench.due("after q", x.defences(), open);
            Bench.due("q is claimed", x.claims() & 15, 2);
        }
    }

    private static void atomsAreClaimedOnlyIfClaimed() {
        Bench.says("The proponent can claim an atom only if the opponent has claimed it.");
        Bench.due("an open defence p, not claimed", begun("q>p", 0, 0).moveCount(), 0);
        Bench.due("an open defence p, claimed", begun("p>p", 0, 0).moveCount(), 1);
        Bench.due("an attack on ~p, not claimed", begun("~p>s", 0, 0).moveCount(), 0);
        Bench.due("an attack on p>q, not claimed", begun("(p>q)>s", 0, 0).moveCount(), 0);
        // ~p is 4, p>q is 5, their conjunction is 6, and 7 is that of p and 6
        DialogueGames x = begun("p&(~p&(p>q))>s", 0, 0);
        Bench.due("ask 7 for 6", x.play(1, 0), 4);
        Bench.due("ask 6 for ~p, which cannot be attacked", x.play(0, 0), 4);
        Bench.due("ask 6 for p>q, which cannot be attacked", x.play(1, 0), 4);
        Bench.due("all but p are claimed", x.claims(), 16 + 32 + 64 + 128);
        Bench.due("ask 7 for p, and both can be attacked", x.play(2, 0), 6);
        Bench.due("~p is attacked", x.move(0, 1), 4);
        Bench.due("p>q is attacked", x.move(1, 1), 5);
        for (int atom = 0; atom < 4; atom++) {
            String name = "" + (char) ('p' + atom);
            Bench.due(name + " for itself", begun(name + ">" + name, 0, 0).moveCount(), 1);
            String other = "" + (char) ('p' + (atom + 1) % 4);
            Bench.due(name + " for another", begun(name + ">" + other, 0, 0).moveCount(), 0);
        }
    }

    /** The move 0 has so many replies, and no other number is taken. */
    private static void hasReplies(String text, int replies) {
        Bench.Maker maker = () -> begun(text, 1, 0);
        Bench.due("replies in " + text, maker.make().move(0, 2), replies);
        for (int reply = 0; reply < replies; reply++) Bench.due("reply " + reply + " in " + text + " is taken", maker.make().play(0, reply) >= 0 ? 1 : 0, 1);
        int[] beside = {-1, replies, replies + 1, replies + 256, LOW, HIGH};
        for (int reply : beside) {
            if (replies > 0) Bench.refused("reply " + reply + " in " + text, maker, x -> x.play(0, reply), -1);
            else Bench.due("reply " + reply + " is ignored in " + text, maker.make().play(0, reply), 1000);
        }
    }

    private static void repliesToAttacks() {
        Bench.says("The replies are numbered from 0 in the order given here (attacks of the proponent).");
        hasReplies("~~p>s", 1);
        hasReplies("~(p&q)>s", 2);
        hasReplies("~(p|q)>s", 1);
        hasReplies("~(p>q)>s", 1);
        hasReplies("p&q>s", 1);
        hasReplies("p|q>s", 2);
        hasReplies("(~p>q)>s", 2);
        hasReplies("(p&q>r)>s", 3);
        hasReplies("(p|q>r)>s", 2);
        hasReplies("((p>q)>r)>s", 2);
        DialogueGames x = begun("(p&q>r)>s", 0, 0);
        x.play(0, 0);
        Bench.due("reply 0 has the defence p", x.defences(), 1);
        x.takeBack();
        x.play(0, 1);
        Bench.due("reply 1 has the defence q", x.defences(), 2);
        x.takeBack();
        x.play(0, 2);
        Bench.due("the last reply leaves the defence s", x.defences(), 8);
        Bench.due("and claims r", x.claims() & 15, 4);
        x = begun("p&(p>q)>s", 0, 0);
        x.play(0, 0);
        x.play(1, 0);
        Bench.due("an attack on p>q has the one reply", x.move(0, 2), 1);
        Bench.due("no second reply", x.play(0, 1), -1);
        Bench.due("the one reply is taken", x.play(0, 0), 3);
        Bench.due("which claims q", x.claims() & 15, 3);
        x = begun("p|q>s", 0, 0);
        x.play(0, 0);
        Bench.due("reply 0 claims A", x.claims() & 15, 1);
        x.takeBack();
        x.play(0, 1);
        Bench.due("reply 1 claims B", x.claims() & 15, 2);
    }

    private static void repliesToClaims() {
        Bench.says("To a claim of an open defence X: the attacks on X.");
        hasReplies("p>p", 0);
        hasReplies("p>~q", 1);
        hasReplies("p>q&r", 2);
        hasReplies("p>q|r", 1);
        hasReplies("p>q>r", 1);
        hasReplies("p>p&p", 2);
    }

    private static void noReplyWins() {
        Bench.says("If there is no reply to a move, the argument reply is ignored, the proponent has won, and the dialogue is over; it can still be taken back.");
        int[] replies = {LOW, -1, 0, 1, 40, HIGH};
        for (int reply : replies) {
            DialogueGames x = begun("p>p", 0, 0);
            Bench.due("reply " + reply, x.play(0, reply), 1000);
            Bench.due("over", x.moveCount(), -7);
            Bench.due("taken back", x.takeBack(), 0);
            Bench.due("and on", x.moveCount(), 1);
        }
        DialogueGames x = begun("p&~p>s", 0, 0);
        x.play(0, 0);
        x.play(1, 0);
        Bench.due("an attack on ~p has no reply", x.move(0, 2), 0);
        Bench.due("and wins", x.play(0, -9), 1000);
    }

    private static void orderOfMoves() {
        Bench.says("First the claims of open defences, by ascending formulas; then the attacks on claims, by ascending formulas, and for a conjunction left before right.");
        DialogueGames x = new DialogueGames();
        int c = x.combine(2, 3, 0);
        int n = x.negate(x.combine(3, 1, 2));
        int d = x.combine(3, n, c);
        x.begin(x.combine(4, x.combine(2, d, n), d), 1, 0);
        int whole = x.part(x.formulaCount() - 1, 0);
        x.play(1, 0);
        x.play(3, 0);
        Bench.due("whole, d and n are claimed", x.claims(), 1L << whole | 1L << d | 1L << n);
        x.play(0, 0);
        Bench.due("d, n and c are open", x.defences(), 1L << d | 1L << n | 1L << c);
        int[] formulas = {c, n, d, n, d, whole, whole};
        int[] types = {0, 0, 0, 1, 1, 2, 3};
        Bench.due("moves", x.moveCount(), 7);
        for (int k = 0; k < 7; k++) {
            Bench.due("type of move " + k, x.move(k, 0), types[k]);
            Bench.due("formula of move " + k, x.move(k, 1), formulas[k]);
        }
    }

    private static void ranksFromOne() {
        Bench.says("A move to which there is no reply wins at once, so that the rank is then 1.");
        for (int manner = 0; manner < 2; manner++) {
            DialogueGames x = new DialogueGames();
            Bench.due("p>p", x.rank(Bench.parse(x, "p>p"), manner), 1);
            Bench.due("p>q", x.rank(Bench.parse(x, "p>q"), manner), -5);
            Bench.due("p>p|q", x.rank(Bench.parse(x, "p>p|q"), manner), 2);
        }
        Bench.says("The rank of a formula is the maximum rank of the positions after all attacks on it; it has no rank if one of these positions has none.");
        for (int manner = 0; manner < 2; manner++) {
            DialogueGames x = new DialogueGames();
            int low = Bench.parse(x, "p>p");
            int high = Bench.parse(x, "p>p|q");
            int none = Bench.parse(x, "p>q");
            Bench.due("low and high", x.rank(x.combine(2, low, high), manner), 3);
            Bench.due("high and low", x.rank(x.combine(2, high, low), manner), 3);
            Bench.due("low twice", x.rank(x.combine(2, low, low), manner), 2);
            Bench.due("low and none", x.rank(x.combine(2, low, none), manner), -5);
            Bench.due("none and low", x.rank(x.combine(2, none, low), manner), -5);
        }
        Bench.says("An atom has no rank.");
        for (int atom = 0; atom < 4; atom++) {
            Bench.due("rank of " + atom, new DialogueGames().rank(atom, 0), -5);
            Bench.due("rank of " + atom, new DialogueGames().rank(atom, 1), -5);
            Bench.due("positions of " + atom, new DialogueGames().positionCount(atom, 0), 0);
            Bench.due("positions of " + atom, new DialogueGames().positionCount(atom, 1), 0);
            Bench.due("manners of " + atom, new DialogueGames().manners(atom), 0);
        }
    }

    private static void noPositionHelpsItself() {
        Bench.says("Ranks are the least numbers by which a win can be forced, so that a position does not help itself.");
        DialogueGames x = begun("~~p>p", 0, 0);
        Bench.due("a move that leads back gives no rank", x.rank(6, 0), -5);
        x.play(0, 0);
        Bench.due("moves", x.moveCount(), 1);
        long claims = x.claims();
        Bench.due("no rank", x.positionRank(), -5);
        Bench.due("no best move", x.bestMove(), -5);
        Bench.due("the reply that leads back", x.hardestReply(0), 0);
        x.play(0, 0);
        Bench.due("it led back", x.claims(), claims);
        Bench.due("classically there is a way out", x.rank(6, 1), 2);
        for (int manner = 0; manner < 2; manner++) {
            x = new DialogueGames();
            Bench.due("one start leads to the other", x.rank(Bench.parse(x, "(q>q)&((q>q)&(q>q))"), manner), 3);
            Bench.due("the other way round", x.rank(Bench.parse(x, "((q>q)&(q>q))&(q>q)"), manner), 3);
            x = begun("q&(p|q)>(r>r)", manner, 0);
            x.play(1, 0);
            x.play(3, 0);
            Bench.due("reply 1 leads back to the present position, which has a rank", x.hardestReply(1), 0);
            x.play(1, 1);
            Bench.due("for that position", x.positionRank(), 2);
        }
    }

    /** Conjunctions of conjunctions, as many as fit below an implication. */
    private static DialogueGames longChain(int manner) {
        DialogueGames x = new DialogueGames();
        int last = 0;
        for (int k = 0; k < 35; k++) last = x.combine(2, last, last);
        x.begin(x.combine(4, last, 0), manner, 0);
        return x;
    }

    private static void longChains() {
        Bench.says("There are at most 40 formulas (a dialogue about all of them).");
        for (int manner = 0; manner < 2; manner++) {
            DialogueGames x = longChain(manner);
            Bench.due("40 formulas", x.formulaCount(), 40);
            Bench.due("35 conjunctions are to be asked, and p is to be claimed", x.rank(39, manner), 36);
            Bench.due("as many positions as parts", x.positionCount(39, manner), 36);
            for (int k = 0; k < 20; k++) {
                Bench.due("rank before move " + k, x.positionRank(), 36 - k);
                Bench.due("best move before move " + k, x.bestMove(), 0);
                Bench.due("move " + k, x.play(0, 0), 2 * (k + 2));
            }
            Bench.due("the 21 claims", x.claims(), (1L << 39) - (1L << 18));
            Bench.due("the last move asks 38 for its right part", x.move(41, 0) * 100 + x.move(41, 1), 338);
            Bench.due("no move after it", x.move(42, 0), -5);
            Bench.due("full", x.play(0, 0), -3);
        }
    }

    private static void searchLimitOfFormulas() {
        Bench.says("Methods that need a rank fail if the positions they start from have more than 300 different descendants together (one position).");
        for (int manner = 0; manner < 2; manner++) {
            DialogueGames x = new DialogueGames();
            int taken = Bench.parse(x, HAS_300);
            Bench.due("300: rank", x.rank(taken, manner), 5);
            Bench.due("300: positionCount", x.positionCount(taken, manner), 300);
            x = new DialogueGames();
            int beyond = Bench.parse(x, HAS_301);
            Bench.due("301: rank", x.rank(beyond, manner), -6);
            Bench.due("301: positionCount", x.positionCount(beyond, manner), -6);
            Bench.due("a small one after it", x.rank(Bench.parse(x, "s>s"), manner), 1);
            Bench.due("a small one after it", x.positionCount(Bench.parse(x, "s>s"), manner), 1);
            x = new DialogueGames();
            int nested = Bench.parse(x, HAS_300);
            int twice = x.combine(3, nested, nested);
            Bench.due("one position above 300", x.positionCount(twice, manner), -6);
            Bench.due("one position above 300", x.rank(twice, manner), -6);
        }
        DialogueGames x = new DialogueGames();
        Bench.due("300 in both manners", x.manners(Bench.parse(x, HAS_300)), 3);
    }

    private static void searchLimitTogether() {
        Bench.says("More than 300 different descendants together (two positions).");
        for (int manner = 0; manner < 2; manner++) {
            DialogueGames x = new DialogueGames();
            int both = x.combine(2, Bench.parse(x, HAS_297), Bench.parse(x, "p>p"));
            Bench.due("298 and 2: positionCount", x.positionCount(both, manner), 300);
            Bench.due("298 and 2: rank", x.rank(both, manner), 6);
            Bench.due("298 and 2: manners", x.manners(both), 3);
            x = new DialogueGames();
            int many = Bench.parse(x, HAS_298);
            both = x.combine(2, many, Bench.parse(x, "p>p"));
            Bench.due("299 and 2: positionCount", x.positionCount(both, manner), -6);
            Bench.due("299 and 2: rank", x.rank(both, manner), -6);
            Bench.due("299 and 2: manners", x.manners(both), -6);
            x.begin(both, manner, 0);
            Bench.due("299 alone", x.positionRank(), 6);
            x.begin(both, manner, 1);
            Bench.due("2 alone", x.positionRank(), 2);
            both = x.combine(2, many, many);
            Bench.due("the same position twice counts once", x.positionCount(both, manner), 299);
            Bench.due("the same position twice counts once", x.rank(both, manner), 6);
        }
    }

    private static void searchLimitOfDialogues() {
        Bench.says("The methods about a dialogue start from the present position.");
        for (int manner = 0; manner < 2; manner++) {
            DialogueGames x = begun(HAS_300, manner, 0);
            Bench.due("300: positionRank", x.positionRank(), 5);
            Bench.due("300: bestMove", x.bestMove(), 0);
            Bench.due("300: hardestReply", x.hardestReply(0), 0);
            int attacker = manner;
            Bench.Maker beyond = () -> begun(HAS_301, attacker, 0);
            Bench.refused("301: positionRank", beyond, y -> y.positionRank(), -6);
            Bench.refused("301: bestMove", beyond, y -> y.bestMove(), -6);
            Bench.refused("301: hardestReply", beyond, y -> y.hardestReply(0), -6);
            x = new DialogueGames();
            int f = Bench.parse(x, HAS_300);
            x.begin(x.combine(3, f, f), manner, 0);
            Bench.due("above 300", x.positionRank(), -6);
            Bench.due("a move needs no rank", x.play(0, 0), 3 + manner);
            Bench.due("300 after it", x.positionRank(), 5);
            Bench.due("300 after it", x.bestMove(), 0);
            Bench.due("taken back", x.takeBack(), 0);
            Bench.due("above 300 again", x.bestMove(), -6);
        }
    }

    private static void lastOf512Calls() {
        Bench.says("An object is used for at most 512 calls after it has been made.");
        DialogueGames x = new DialogueGames();
        Bench.due("bytes", x.append('p', 1), 1);
        Bench.due("formula", x.parse(), 0);
        Bench.due("formula", x.combine(2, 3, 1), 4);
        Bench.due("formula", x.negate(2), 5);
        Bench.due("formula", x.combine(2, 4, 5), 6);
        Bench.due("formula", x.combine(2, 0, 3), 7);
        Bench.due("formula", x.combine(3, 2, 0), 8);
        Bench.due("formula", x.combine(2, 7, 8), 9);
        Bench.due("formula", x.combine(2, 6, 9), 10);
        Bench.due("formula", x.combine(3, 0, 3), 11);
        Bench.due("the formula of 300 positions", x.combine(4, 10, 11), 12);
        Bench.due("begin", x.begin(12, 0, 0), 3);
        for (int calls = 13; calls <= 512; calls++) Bench.due("call " + calls, calls % 2 == 0 ? x.positionRank() : x.rank(12, 1), 5);
    }

    private static void details() {
        Bench.says("An open defence stays open when it is claimed.");
        DialogueGames x = begun("p>q&r", 1, 0);
        long open = x.defences();
        x.play(0, 0);
        Bench.due("open", x.defences(), open | 2);
        Bench.due("it can be claimed again", x.play(0, 1), 1);
        Bench.due("open", x.defences(), open | 6);
        Bench.says("Attacks that were made already can be made again.");
        x = begun(SWAP, 0, 0);
        for (int k = 0; k < 20; k++) Bench.due("left again", x.play(1, 0), 3);
        Bench.says("Open defences that cannot be claimed have no number among the moves.");
        x = begun("p|(q>q)", 0, 0);
        Bench.due("p is open", x.defences() & 1, 1);
        Bench.due("one move", x.moveCount(), 1);
        Bench.due("which is not p", x.move(0, 1), 4);
        Bench.due("no second", x.move(1, 1), -5);
    }

    private static void rankChecks() {
        Bench.says("Promise 16: NO_SUCH_FORMULA (checked first); BAD_ARGUMENT if the manner is out of range (checked second); LIMIT_EXCEEDED (checked third).");
        int[] manners = {LOW, -1, 2, 3, 256, HIGH};
        for (int manner : manners) {
            Bench.refused("formula before manner " + manner, Bench::crowded, x -> x.rank(40, manner), -2);
            Bench.refused("manner " + manner, Bench::crowded, x -> x.rank(6, manner), -1);
            Bench.refused("manner " + manner + " before NONE", Bench::crowded, x -> x.rank(0, manner), -1);
            Bench.refused("manner " + manner + " before the limit", () -> begun(HAS_301, 0, 0), x -> x.rank(x.formulaCount() - 1, manner), -1);
        }
        for (int formula : Bench.WILD) Bench.refused("formula " + formula, Bench::crowded, x -> x.rank(formula, 0), -2);
        Bench.refused("formula 4 when new", DialogueGames::new, x -> x.rank(4, 0), -2);
        Bench.refused("the limit before NONE", () -> begun(HAS_152_AND_301, 1, 0), x -> x.rank(x.formulaCount() - 1, 1), -6);
        Bench.refused("NONE within the limit", () -> begun(HAS_152_AND_301, 1, 0), x -> x.rank(x.formulaCount() - 1, 0), -5);
        Bench.refused("a rank leaves the state too", Bench::busy, x -> x.rank(6, 0), 3);
    }

    private static void positionCountChecks() {
        Bench.says("Promise 17: NO_SUCH_FORMULA (checked first); BAD_ARGUMENT if the manner is out of range (checked second); LIMIT_EXCEEDED.");
        int[] manners = {LOW, -1, 2, 3, 256, HIGH};
        for (int manner : manners) {
            Bench.refused("formula before manner " + manner, Bench::crowded, x -> x.positionCount(40, manner), -2);
            Bench.refused("manner " + manner, Bench::crowded, x -> x.positionCount(6, manner), -1);
            Bench.refused("an atom, manner " + manner, Bench::crowded, x -> x.positionCount(0, manner), -1);
            Bench.refused("manner " + manner + " before the limit", () -> begun(HAS_301, 0, 0), x -> x.positionCount(x.formulaCount() - 1, manner), -1);
        }
        for (int formula : Bench.WILD) Bench.refused("formula " + formula, Bench::crowded, x -> x.positionCount(formula, 0), -2);
        Bench.refused("formula 4 when new", DialogueGames::new, x -> x.positionCount(4, 0), -2);
        DialogueGames x = new DialogueGames();
        Bench.due("one position", x.positionCount(Bench.parse(x, "~p"), 0), 1);
        Bench.due("two attacks, equal positions", x.positionCount(Bench.parse(x, "p&p"), 1), 1);
        Bench.due("two attacks, two positions", x.positionCount(Bench.parse(x, "p&q"), 1), 2);
        x = new DialogueGames();
        int f = Bench.parse(x, HAS_301_AND_219);
        Bench.due("301 in manner 0", x.positionCount(f, 0), -6);
        Bench.due("219 in manner 1", x.positionCount(f, 1), 219);
        x = new DialogueGames();
        f = Bench.parse(x, HAS_152_AND_301);
        Bench.due("152 in manner 0", x.positionCount(f, 0), 152);
        Bench.due("301 in manner 1", x.positionCount(f, 1), -6);
    }

    private static void mannersChecks() {
        Bench.says("Promise 18: 0 if in none, 1 if only in the classical one, 2 if only in the intuitionistic one, 3 if in both; NO_SUCH_FORMULA (checked first); LIMIT_EXCEEDED if the search limit is exceeded in either manner.");
        DialogueGames x = new DialogueGames();
        Bench.due("none", x.manners(Bench.parse(x, "p>q")), 0);
        Bench.due("classical", x.manners(Bench.parse(x, "p|~p")), 1);
        Bench.due("both", x.manners(Bench.parse(x, "p>p")), 3);
        // 2 cannot come: the classical manner only adds defences, so a rank in manner 0 is one in manner 1 too
        Bench.refused("in manner 0 alone", () -> begun(HAS_301_AND_219, 1, 0), y -> y.manners(y.formulaCount() - 1), -6);
        Bench.refused("in manner 1 alone", () -> begun(HAS_152_AND_301, 0, 0), y -> y.manners(y.formulaCount() - 1), -6);
        Bench.refused("in both", () -> begun(HAS_301, 0, 0), y -> y.manners(y.formulaCount() - 1), -6);
        for (int formula : Bench.WILD) Bench.refused("formula " + formula, Bench::crowded, y -> y.manners(formula), -2);
        Bench.refused("formula 40", Bench::crowded, y -> y.manners(40), -2);
        Bench.refused("formula 4 when new", DialogueGames::new, y -> y.manners(4), -2);
    }

    private static void beginBounds() {
        Bench.says("Promise 19: NO_SUCH_FORMULA (checked first); BAD_ARGUMENT if the formula is an atom, or the manner or the attack is out of range.");
        int[] beside = {LOW, -1, 2, 3, 256, HIGH};
        for (int number : beside) {
            Bench.refused("formula before manner " + number, Bench::busy, x -> x.begin(7, number, 0), -2);
            Bench.refused("formula before attack " + number, Bench::busy, x -> x.begin(-1, 0, number), -2);
            Bench.refused("manner " + number, Bench::busy, x -> x.begin(6, number, 0), -1);
            Bench.refused("attack " + number + " on an implication", Bench::busy, x -> x.begin(6, 0, number), -1);
            Bench.refused("attack " + number + " on a conjunction", Bench::busy, x -> x.begin(4, 0, number), -1);
            Bench.refused("after a win, manner " + number, Bench::over, x -> x.begin(5, number, 0), -1);
        }
        for (int atom = 0; atom < 4; atom++) {
            int number = atom;
            Bench.refused("atom " + atom, Bench::busy, x -> x.begin(number, 0, 0), -1);
            Bench.refused("atom " + atom, Bench::over, x -> x.begin(number, 1, 1), -1);
        }
        for (int formula : Bench.WILD) Bench.refused("formula " + formula, Bench::crowded, x -> x.begin(formula, 0, 0), -2);
        Bench.refused("formula 40 when full", Bench::crowded, x -> x.begin(40, 0, 0), -2);
        Bench.due("formula 39 when full", Bench.filledTo(40).begin(39, 0, 0), 1);
        Bench.says("Promise 19: the attack, 0, or for a conjunction 0 or 1.");
        Bench.Maker maker = () -> {
            DialogueGames x = new DialogueGames();
            x.negate(0);
            x.combine(2, 0, 1);
            x.combine(3, 0, 1);
            x.combine(4, 0, 1);
            return x;
        };
        int[] last = {0, 0, 0, 0, 0, 1, 0, 0};
        for (int formula = 4; formula < 8; formula++) {
            int number = formula;
            for (int attack = 0; attack <= last[formula]; attack++) Bench.due("attack " + attack + " on " + formula, maker.make().begin(formula, 0, attack), 0);
            Bench.refused("attack beyond on " + formula, maker, x -> x.begin(number, 0, last[number] + 1), -1);
            Bench.refused("attack -1 on " + formula, maker, x -> x.begin(number, 1, -1), -1);
        }
    }

    private static void beginReplaces() {
        Bench.says("Promise 19: a dialogue that is being played is replaced.");
        DialogueGames x = Bench.crowded();
        Bench.due("begin after 20 moves", x.begin(6, 1, 0), 3);
        Bench.due("claims", x.claims(), 16);
        Bench.due("defences", x.defences(), 32);
        Bench.says("A dialogue that another dialogue replaced has no moves that could be taken back.");
        Bench.due("takeBack", x.takeBack(), -5);
        for (int k = 0; k < 20; k++) Bench.due("20 moves again", x.play(1, 0), 3);
        Bench.due("and no more", x.play(1, 0), -3);
        x = Bench.over();
        x.begin(5, 0, 0);
        Bench.due("after a win it is played", x.moveCount(), 1);
        Bench.due("takeBack after a win and a begin", x.takeBack(), -5);
    }

    private static void notPlaying() {
        Bench.says("Promises 20 and 21: NO_VALUE if no dialogue is being played, or it is over.");
        Bench.Maker wasReset = () -> {
            DialogueGames x = Bench.busy();
            x.reset();
            return x;
        };
        Bench.Maker[] makers = {DialogueGames::new, Bench::over, wasReset};
        for (Bench.Maker maker : makers) {
            Bench.refused("claims", maker, x -> x.claims(), NO_VALUE);
            Bench.refused("defences", maker, x -> x.defences(), NO_VALUE);
        }
        Bench.says("Promises 22 to 24 and 26 to 28: NOT_PLAYING (checked first).");
        for (Bench.Maker maker : makers) {
            Bench.refused("moveCount", maker, x -> x.moveCount(), -7);
            Bench.refused("positionRank", maker, x -> x.positionRank(), -7);
            Bench.refused("bestMove", maker, x -> x.bestMove(), -7);
            int[] numbers = {LOW, -1, 0, 1, 3, 40, HIGH};
            for (int number : numbers) {
                Bench.refused("move, what " + number, maker, x -> x.move(0, number), -7);
                Bench.refused("move " + number, maker, x -> x.move(number, 0), -7);
                Bench.refused("play " + number, maker, x -> x.play(number, number), -7);
                Bench.refused("hardestReply " + number, maker, x -> x.hardestReply(number), -7);
            }
        }
    }

    private static void positionWithoutMoves() {
        Bench.says("Promise 22: the number of moves, which may be none.");
        Bench.Maker maker = () -> begun("p&q", 0, 0);
        Bench.due("moveCount", maker.make().moveCount(), 0);
        Bench.due("claims", maker.make().claims(), 0);
        Bench.due("defences", maker.make().defences(), 1);
        Bench.refused("move", maker, x -> x.move(0, 0), -5);
        Bench.refused("play", maker, x -> x.play(0, 0), -5);
        Bench.refused("positionRank", maker, x -> x.positionRank(), -5);
        Bench.refused("bestMove", maker, x -> x.bestMove(), -5);
        Bench.refused("hardestReply", maker, x -> x.hardestReply(0), -5);
        Bench.refused("takeBack", maker, x -> x.takeBack(), -5);
    }

    private static void moveBounds() {
        Bench.says("Promise 23: BAD_ARGUMENT if what is out of range (checked second); NONE if there is no such move.");
        int[] beside = {LOW, -1, 3, 4, 256, HIGH};
        for (int what : beside) {
            Bench.refused("what " + what, Bench::busy, x -> x.move(0, what), -1);
            Bench.refused("what " + what + " before the move", Bench::busy, x -> x.move(4, what), -1);
            Bench.refused("what " + what + " before the move", Bench::busy, x -> x.move(-1, what), -1);
        }
        int[] moves = {LOW, -1, 4, 5, 120, 256, HIGH};
        for (int move : moves) {
            for (int what = 0; what < 3; what++) {
                int asked = what;
                Bench.refused("move " + move, Bench::busy, x -> x.move(move, asked), -5);
            }
        }
        DialogueGames x = Bench.busy();
        Bench.due("moves", x.moveCount(), 4);
        int[][] due = {{0, 0, 0}, {0, 5, 2}, {2, 4, 1}, {3, 4, 1}};
        for (int move = 0; move < 4; move++) {
            for (int what = 0; what < 3; what++) Bench.due("move " + move + ", what " + what, x.move(move, what), due[move][what]);
        }
    }

    private static void playChecks() {
        Bench.says("Promise 24: NONE if there is no such move (checked second); BAD_ARGUMENT if there is no such reply (checked third).");
        int[] moves = {LOW, -1, 4, 5, 256, HIGH};
        for (int move : moves) {
            Bench.refused("move " + move, Bench::busy, x -> x.play(move, 0), -5);
            Bench.refused("move " + move + " before the reply", Bench::busy, x -> x.play(move, -1), -5);
        }
        int[] replies = {LOW, -1, 2, 256, HIGH};
        for (int reply : replies) Bench.refused("reply " + reply, Bench::busy, x -> x.play(1, reply), -1);
        Bench.due("the last move and its last reply", Bench.busy().play(3, 0), 4);
        Bench.due("the last reply", Bench.busy().play(1, 1), 4);
    }

    private static void playTwentyMoves() {
        Bench.says("Promise 24: FULL if 20 moves have been played.");
        DialogueGames x = begun(SWAP, 0, 0);
        for (int k = 1; k <= 20; k++) Bench.due("move " + k, x.play(1, 0), 3);
        Bench.due("move 21", x.play(1, 0), -3);
        Bench.refused("move 21", Bench::crowded, y -> y.play(1, 0), -3);
        Bench.refused("a wrong move before FULL", Bench::crowded, y -> y.play(3, 0), -5);
        Bench.refused("a wrong move before FULL", Bench::crowded, y -> y.play(-1, 9), -5);
        Bench.refused("a wrong reply before FULL", Bench::crowded, y -> y.play(1, 1), -1);
        Bench.refused("a wrong reply before FULL", Bench::crowded, y -> y.play(0, 2), -1);
        Bench.refused("the last reply and FULL", Bench::crowded, y -> y.play(0, 1), -3);
        Bench.due("one is taken back", x.takeBack(), 19);
        Bench.due("so that one can be played", x.play(2, 0), 3);
        Bench.due("and no other", x.play(2, 0), -3);
        Bench.due("the position can still be asked", x.moveCount(), 3);
        Bench.due("its rank too", x.positionRank(), 2);
        Bench.due("and its best move", x.bestMove(), 0);
    }

    /** The dialogue about q&p where q is asked for, and the claim of q wins as move 0. */
    private static DialogueGames nearWin(int played) {
        DialogueGames x = begun(SWAP, 0, 0);
        x.play(2, 0);
        x.play(0, 0);
        for (int k = 2; k < played; k++) x.play(1, 0);
        return x;
    }

    private static void playWinsAsTwentieth() {
        Bench.says("Promise 24: FULL if 20 moves have been played, and WON with the 20th.");
        DialogueGames x = nearWin(19);
        Bench.due("the 20th wins", x.play(0, LOW), 1000);
        Bench.due("it is over before it is full", x.play(0, 0), -7);
        Bench.due("19 are left", x.takeBack(), 19);
        Bench.due("won again", x.play(0, HIGH), 1000);
        Bench.refused("the 21st does not win", () -> nearWin(20), y -> y.play(0, 0), -3);
        x = nearWin(20);
        x.play(0, 0);
        Bench.due("it is still played", x.moveCount(), 3);
        Bench.due("with 20 moves", x.takeBack(), 19);
    }

    private static void takeBackBounds() {
        Bench.says("Promise 25: the number of moves that are left of those played; NONE if no move can be taken back, or no dialogue was begun.");
        Bench.refused("when new", DialogueGames::new, x -> x.takeBack(), -5);
        Bench.refused("when begun", () -> begun(SWAP, 0, 0), x -> x.takeBack(), -5);
        DialogueGames x = Bench.crowded();
        for (int left = 19; left >= 0; left--) Bench.due("takeBack", x.takeBack(), left);
        Bench.due("no more", x.takeBack(), -5);
        Bench.due("at the beginning", x.claims(), 16);
        Bench.due("it goes on", x.play(1, 0), 3);
        Bench.due("and back", x.takeBack(), 0);
        x = begun("p>p", 0, 0);
        x.play(0, 0);
        Bench.due("the only move, which won", x.takeBack(), 0);
        Bench.due("no more", x.takeBack(), -5);
        Bench.due("begun all the same", x.moveCount(), 1);
        x = Bench.busy();
        x.play(9, 0);
        x.play(1, 9);
        Bench.due("refused moves are not counted", x.takeBack(), 1);
    }

    private static void bestMoveBounds() {
        Bench.says("Promises 26 and 27: NOT_PLAYING (checked first); LIMIT_EXCEEDED (checked second); NONE if the position has no rank.");
        Bench.refused("rank of a position without one", () -> begun("~~p>p", 0, 0), x -> x.positionRank(), -5);
        Bench.refused("best move of a position without a rank", () -> begun("~~p>p", 0, 0), x -> x.bestMove(), -5);
        Bench.refused("the limit before NONE", () -> begun(HAS_152_AND_301, 1, 0), x -> x.positionRank(), -6);
        Bench.refused("the limit before NONE", () -> begun(HAS_152_AND_301, 1, 0), x -> x.bestMove(), -6);
        Bench.refused("none within the limit", () -> begun(HAS_152_AND_301, 0, 0), x -> x.positionRank(), -5);
        Bench.says("Promise 27: the one with the lowest number of those with which the proponent can win with at most as many moves as the rank.");
        DialogueGames x = begun("p&q>q", 0, 0);
        Bench.due("the left part does not help", x.bestMove(), 1);
        Bench.due("rank", x.positionRank(), 2);
        x.play(0, 0);
        Bench.due("it still does not", x.bestMove(), 1);
        x.play(1, 0);
        Bench.due("the win is the first move", x.bestMove(), 0);
        Bench.due("rank 1", x.positionRank(), 1);
        x = begun("p&p>p", 0, 0);
        Bench.due("the first of two that are as good", x.bestMove(), 0);
    }

    private static void hardestReplyBounds() {
        Bench.says("Promise 28: LIMIT_EXCEEDED (checked second); NONE if there is no such move, or no reply to it.");
        int[] moves = {LOW, -1, 4, 5, 256, HIGH};
        for (int move : moves) {
            Bench.refused("move " + move, Bench::busy, x -> x.hardestReply(move), -5);
            Bench.refused("the limit before move " + move, () -> begun(HAS_301, 0, 0), x -> x.hardestReply(move), -6);
        }
        Bench.refused("no reply", Bench::busy, x -> x.hardestReply(0), -5);
        Bench.refused("a move with replies leaves the state too", Bench::busy, x -> x.hardestReply(3), 0);
        Bench.says("Promise 28: the first one that leads to a position without a rank; if there is none, the first one that leads to a position of the highest rank.");
        Bench.due("the last has no rank", begun("p>p&q", 0, 0).hardestReply(0), 1);
        Bench.due("the first has no rank", begun("p>q&p", 0, 0).hardestReply(0), 0);
        Bench.due("both have none", begun("p>q&r", 0, 0).hardestReply(0), 0);
        Bench.due("equal ranks", begun("p>p&p", 0, 0).hardestReply(0), 0);
        Bench.due("the last is higher", begun("p>p&(q>q)", 0, 0).hardestReply(0), 1);
        Bench.due("the first is higher", begun("p>(q>q)&p", 0, 0).hardestReply(0), 0);
        Bench.due("no rank before the highest", begun("p>(q>q)&r", 0, 0).hardestReply(0), 1);
        DialogueGames x = begun("(p&q>r)>s", 0, 0);
        Bench.due("of three without a rank, the first", x.hardestReply(0), 0);
    }

    private static void replayChecks() {
        Bench.says("Promise 35: BAD_ARGUMENT if the slot is out of range (checked first).");
        int[] slots = {LOW, -1, 4, 5, 256, HIGH};
        for (int slot : slots) {
            Bench.refused("slot " + slot, Bench::busy, x -> x.replay(slot, 6, 0), -1);
            Bench.refused("slot " + slot + " before all else", Bench::busy, x -> x.replay(slot, 40, 2), -1);
        }
        Bench.says("Promise 35: EMPTY_SLOT (checked second); WRONG_TYPE if the array does not hold bytes (checked third).");
        for (int slot = 0; slot < 4; slot++) {
            int number = slot;
            Bench.refused("empty slot " + slot, Bench::over, x -> x.replay(number, 5, 0), -11);
            Bench.refused("empty slot " + slot + " before the formula", Bench::over, x -> x.replay(number, 40, 2), -11);
            if (slot == 0) continue;
            Bench.refused("type " + slot, Bench::busy, x -> x.replay(number, 6, 0), -12);
            Bench.refused("type " + slot + " before the formula", Bench::busy, x -> x.replay(number, 40, 2), -12);
            Bench.refused("type " + slot + " before an atom", Bench::busy, x -> x.replay(number, 0, 0), -12);
            DialogueGames x = Bench.busy();
            x.allocate(slot, slot, 0);
            Bench.due("type " + slot + " of no elements", x.replay(slot, 6, 0), -12);
        }
        Bench.says("Promise 35: NO_SUCH_FORMULA (checked fourth); BAD_ARGUMENT if the formula is an atom or the manner is out of range.");
        for (int formula : Bench.WILD) Bench.refused("formula " + formula, Bench::busy, x -> x.replay(0, formula, 0), -2);
        Bench.refused("the first that is not there", Bench::busy, x -> x.replay(0, 7, 0), -2);
        Bench.refused("the formula before the manner", Bench::busy, x -> x.replay(0, 7, 2), -2);
        int[] manners = {LOW, -1, 2, 256, HIGH};
        for (int manner : manners) {
            Bench.refused("manner " + manner, Bench::busy, x -> x.replay(0, 6, manner), -1);
            Bench.refused("an atom, manner " + manner, Bench::busy, x -> x.replay(0, 0, manner), -1);
        }
        for (int atom = 0; atom < 4; atom++) {
            int number = atom;
            Bench.refused("atom " + atom, Bench::busy, x -> x.replay(0, number, 1), -1);
        }
    }

    private static void replayLengths() {
        Bench.says("Promise 35: until less than two elements are left.");
        for (int size = 0; size <= 40; size++) {
            DialogueGames x = new DialogueGames();
            int f = Bench.parse(x, SWAP);
            x.allocate(2, 0, size);
            for (int k = 0; k < size; k += 2) x.putElement(2, k, 1);
            Bench.due(size + " elements", x.replay(2, f, 0), size / 2);
            Bench.due("the last move", x.takeBack(), size < 2 ? -5 : size / 2 - 1);
        }
    }

    private static void replayStops() {
        Bench.says("Promise 35: until a move wins; the number of moves that were played, plus WON if the proponent has won.");
        DialogueGames x = new DialogueGames();
        int f = Bench.parse(x, "p>p");
        Bench.bytes(x, 0, 0, 0);
        Bench.due("the first move wins", x.replay(0, f, 0), 1001);
        Bench.due("over", x.moveCount(), -7);
        Bench.bytes(x, 0, 0, -128, 0, 0, 9, 9);
        Bench.due("what follows is not played", x.replay(0, f, 0), 1001);
        Bench.due("one move was played", x.takeBack(), 0);
        Bench.bytes(x, 0, 0);
        Bench.due("a move without a reply is no pair", x.replay(0, f, 0), 0);
        Bench.due("and is not played", x.moveCount(), 1);
        Bench.says("Promise 35: until a pair cannot be played; the moves that were played before stay.");
        int g = Bench.parse(x, SWAP);
        long[][] stops = {{3, 0}, {-1, 0}, {0, 2}, {0, -1}, {1, 1}, {127, 127}, {-128, -128}};
        for (long[] stop : stops) {
            Bench.bytes(x, 0, stop[0], stop[1], 1, 0);
            Bench.due("the first pair " + stop[0] + " " + stop[1], x.replay(0, g, 0), 0);
            Bench.due("the dialogue has begun", x.moveCount(), 3);
            Bench.due("nothing to take back", x.takeBack(), -5);
            Bench.bytes(x, 0, 1, 0, stop[0], stop[1], 1, 0);
            Bench.due("the second pair " + stop[0] + " " + stop[1], x.replay(0, g, 0), 1);
            Bench.due("the first stays", x.claims() & 15, 1);
            Bench.due("and can be taken back", x.takeBack(), 0);
        }
        Bench.bytes(x, 0, 0, 0);
        Bench.due("a position without moves", x.replay(0, Bench.parse(x, "~p"), 0), 0);
        Bench.due("is played", x.moveCount(), 0);
    }

    private static void replayTwentyMoves() {
        Bench.says("Promise 35 with 40 elements: 20 moves.");
        DialogueGames x = new DialogueGames();
        int f = Bench.parse(x, SWAP);
        long[] pairs = new long[40];
        for (int k = 0; k < 40; k += 2) pairs[k] = 1;
        Bench.bytes(x, 3, pairs);
        Bench.due("20 moves", x.replay(3, f, 0), 20);
        Bench.due("then full", x.play(1, 0), -3);
        Bench.due("replay begins anew", x.replay(3, f, 1), 20);
        pairs[0] = 2;
        pairs[2] = 0;
        pairs[38] = 0;
        pairs[39] = 77;
        Bench.bytes(x, 3, pairs);
        Bench.due("the 20th wins", x.replay(3, f, 0), 1020);
        Bench.due("over", x.moveCount(), -7);
        Bench.due("19 are left", x.takeBack(), 19);
    }

    private static void replayReadsBytes() {
        Bench.says("Promise 35: moves that are stored in an array of bytes, as a Java cast made them.");
        DialogueGames x = new DialogueGames();
        int f = Bench.parse(x, SWAP);
        Bench.bytes(x, 1, 256 + 1, 256, (1L << 32) + 2, 1L << 40);
        Bench.due("cut to 1 0 2 0", x.replay(1, f, 0), 2);
        Bench.due("p and q", x.claims() & 15, 3);
        Bench.bytes(x, 1, 128, 0);
        Bench.due("128 is -128", x.replay(1, f, 0), 0);
        Bench.bytes(x, 1, 0, 255);
        Bench.due("255 is -1", x.replay(1, f, 0), 0);
        Bench.due("the array stays", x.element(1, 1), -1);
    }

    private static void replayBegins() {
        Bench.says("Promise 35: the opponent's first attack is attack 0.");
        DialogueGames x = new DialogueGames();
        int f = Bench.parse(x, "(p>p)&(q>q)");
        x.allocate(0, 0, 0);
        Bench.due("no element", x.replay(0, f, 0), 0);
        Bench.due("the left part is the defence", x.defences(), 16);
        Bench.says("A dialogue that another dialogue replaced has no moves that could be taken back (replay).");
        x = Bench.busy();
        x.allocate(0, 0, 0);
        Bench.due("no element", x.replay(0, 6, 0), 0);
        Bench.due("takeBack", x.takeBack(), -5);
        x = Bench.over();
        x.allocate(0, 0, 1);
        Bench.due("one element after a win", x.replay(0, 5, 0), 0);
        Bench.due("it is played", x.moveCount(), 1);
        Bench.due("takeBack", x.takeBack(), -5);
    }
}
