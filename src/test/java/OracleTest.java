import java.util.ArrayList;
import java.util.HashMap;
import java.util.HashSet;
import java.util.LinkedHashSet;
import java.util.List;
import java.util.Map;
import java.util.Random;
import java.util.Set;
import java.util.TreeSet;

/**
 * Plays random runs of calls on the class and on a slow model of the document that is written in
 * another way (trees, sets and exceptions), and prints every call on which the two differ.
 */
public final class OracleTest {
    private static final int RUNS = Integer.getInteger("oracle.runs", 1500);
    private static final int CALLS = 512;

    public static void main(String[] args) {
        int wrong = 0;
        long limits = 0;
        Map<String, Integer> seen = new HashMap<>();
        for (int run = 0; run < RUNS && wrong < 20; run++) {
            Player player = new Player(run);
            for (int k = 0; k < CALLS; k++) {
                String call = player.next();
                long got;
                try {
                    got = call(player.real, call);
                } catch (RuntimeException thrown) {
                    System.out.println("run " + run + ", call " + k + ": " + call + " threw " + thrown);
                    wrong++;
                    break;
                }
                long due = player.model.call(call);
                String key = call.substring(0, call.indexOf(' ')) + (due < 0 && due > -20 ? " " + due : "");
                seen.merge(key, 1, Integer::sum);
                if (got != due) {
                    System.out.println("run " + run + ", call " + k + ": " + call + " answered " + got + ", due is " + due);
                    wrong++;
                    break;
                }
            }
        }
        if (Boolean.getBoolean("oracle.tell")) {
            new java.util.TreeMap<>(seen).forEach((key, times) -> System.out.println(key + ": " + times));
        }
        for (String needed : NEEDED) {
            if (RUNS >= 1000 && !seen.containsKey(needed)) {
                System.out.println("no run has met: " + needed);
                wrong++;
            }
        }
        System.out.println(wrong == 0 ? "all random runs are as due" : wrong + " faults");
        if (wrong != 0) System.exit(1);
    }

    /** Answers that the random runs must have met, so that they do not become blind to them. */
    private static final String[] NEEDED = {
        "append -1", "append -3", "parse -3", "negate -2", "negate -3", "combine -1", "combine -2", "combine -3",
        "kind -2", "part -1", "part -2", "part -5", "size -2", "truthTable -2", "isEquivalent -2",
        "transform -2", "transform -3", "transform -4", "rank -1", "rank -2", "rank -5", "rank -6",
        "positionCount -1", "positionCount -2", "positionCount -6", "manners -2", "manners -6",
        "begin -1", "begin -2", "moveCount -7", "move -1", "move -5", "move -7",
        "play -1", "play -3", "play -5", "play -7", "takeBack -5", "positionRank -5", "positionRank -6",
        "positionRank -7", "bestMove -5", "bestMove -6", "bestMove -7", "hardestReply -5", "hardestReply -6",
        "hardestReply -7", "allocate -1", "allocate -14", "release -1", "putElement -1", "putElement -11",
        "putElement -13", "compute -1", "compute -11", "compute -12", "compute -13", "copyElements -1",
        "copyElements -11", "copyElements -12", "copyElements -13", "replay -1", "replay -2", "replay -11", "replay -12",
    };

    static long call(DialogueGames x, String call) {
        String[] w = call.split(" ");
        long[] a = new long[w.length - 1];
        for (int k = 0; k < a.length; k++) a[k] = Long.parseLong(w[k + 1]);
        switch (w[0]) {
            case "reset": return x.reset();
            case "formulaCount": return x.formulaCount();
            case "append": return x.append((int) a[0], (int) a[1]);
            case "clearInput": return x.clearInput();
            case "parse": return x.parse();
            case "negate": return x.negate((int) a[0]);
            case "combine": return x.combine((int) a[0], (int) a[1], (int) a[2]);
            case "kind": return x.kind((int) a[0]);
            case "part": return x.part((int) a[0], (int) a[1]);
            case "size": return x.size((int) a[0]);
            case "subformulas": return x.subformulas((int) a[0]);
            case "truthTable": return x.truthTable((int) a[0]);
            case "isEquivalent": return x.isEquivalent((int) a[0], (int) a[1]);
            case "transform": return x.transform((int) a[0]);
            case "rank": return x.rank((int) a[0], (int) a[1]);
            case "positionCount": return x.positionCount((int) a[0], (int) a[1]);
            case "manners": return x.manners((int) a[0]);
            case "begin": return x.begin((int) a[0], (int) a[1], (int) a[2]);
            case "claims": return x.claims();
            case "defences": return x.defences();
            case "moveCount": return x.moveCount();
            case "move": return x.move((int) a[0], (int) a[1]);
            case "play": return x.play((int) a[0], (int) a[1]);
            case "takeBack": return x.takeBack();
            case "positionRank": return x.positionRank();
            case "bestMove": return x.bestMove();
            case "hardestReply": return x.hardestReply((int) a[0]);
            case "allocate": return x.allocate((int) a[0], (int) a[1], (int) a[2]);
            case "release": return x.release((int) a[0]);
            case "putElement": return x.putElement((int) a[0], (int) a[1], a[2]);
            case "element": return x.element((int) a[0], (int) a[1]);
            case "compute": return x.compute((int) a[0], (int) a[1], (int) a[2], (int) a[3]);
            case "copyElements": return x.copyElements((int) a[0], (int) a[1], (int) a[2], (int) a[3], (int) a[4]);
            case "replay": return x.replay((int) a[0], (int) a[1], (int) a[2]);
            default: throw new IllegalArgumentException(call);
        }
    }

    /** Chooses the calls of a run; some come in groups, such as the bytes of a text and its parse. */
    static final class Player {
        final DialogueGames real = new DialogueGames();
        final Model model = new Model();
        private final Random random;
        private final List<String> queue = new ArrayList<>();
        private final int style;

        Player(int seed) {
            random = new Random(seed * 7919L + 13);
            style = seed % 4;
            if (style != 1) for (int slot = 0; slot < 4; slot++) add("allocate", slot, style == 3 ? 2 + slot % 2 : slot, random.nextInt(41));
        }

        String next() {
            if (queue.isEmpty()) plan();
            return queue.remove(0);
        }

        private void add(String name, long... arguments) {
            StringBuilder text = new StringBuilder(name).append(' ');
            for (long argument : arguments) text.append(argument).append(' ');
            queue.add(text.toString());
        }

        private int wild() {
            int[] wilds = {-1, -2, 40, 41, 100, Integer.MAX_VALUE, Integer.MIN_VALUE, -40};
            return wilds[random.nextInt(wilds.length)];
        }

        private int near(int bound) {
            return random.nextInt(25) == 0 ? wild() : random.nextInt(24) == 0 ? bound : random.nextInt(Math.max(1, bound));
        }

        private int formula() {
            int count = model.forms.size();
            if (random.nextInt(3) > 0 && count > 4 && random.nextInt(25) > 0) return count - 1 - random.nextInt(Math.min(4, count - 4));
            return near(count);
        }

        private long value() {
            switch (random.nextInt(6)) {
                case 0: return random.nextLong();
                case 1: return Long.MAX_VALUE - random.nextInt(3);
                case 2: return Long.MIN_VALUE + random.nextInt(3);
                case 3: return random.nextInt();
                case 4: return random.nextLong() >> random.nextInt(64);
                default: return random.nextInt(300) - 150;
            }
        }

        private int operand() {
            switch (random.nextInt(6)) {
                case 0: return 0;
                case 1: return random.nextInt();
                case 2: return random.nextBoolean() ? Integer.MAX_VALUE : Integer.MIN_VALUE;
                case 3: return random.nextInt() >> random.nextInt(32);
                default: return random.nextInt(21) - 10;
            }
        }

        private void plan() {
            int n = random.nextInt(100);
            if (n < 22) planFormula();
            else if (n < 34) planQuestion();
            else if (n < 46) planRank();
            else if (n < 76) planDialogue();
            else if (n < 98) planArray();
            else if (n == 98 && random.nextInt(style == 3 ? 3 : 12) == 0) add("reset");
            else add("formulaCount");
        }

        private void planFormula() {
            int n = random.nextInt(10);
            if (n < 4) {
                write(randomText());
                add("parse");
            } else if (n < 5) {
                add("negate", formula());
            } else if (n < 7) {
                add("combine", 2 + near(3), formula(), formula());
            } else if (n < 9) {
                String[] words = {"negate", "double", "commute", "contrapose", "translate", "doubl", "Negate", "negated", "", "commutf"};
                write(words[random.nextInt(random.nextInt(4) == 0 ? 10 : 5)]);
                add("transform", formula());
            } else if (random.nextBoolean()) {
                add("append", random.nextInt(10) == 0 ? wild() : random.nextInt(130), random.nextInt(10) == 0 ? wild() : 1 + random.nextInt(41));
            } else {
                add("clearInput");
            }
        }

        private void write(String text) {
            if (text.length() > 40) text = text.substring(0, 40);
            if (random.nextInt(6) > 0) add("clearInput");
            for (int k = 0; k < text.length(); ) {
                int end = k;
                while (end < text.length() && text.charAt(end) == text.charAt(k)) end++;
                add("append", text.charAt(k), end - k);
                k = end;
            }
        }

        private String randomText() {
            String text = random.nextInt(4) == 0 ? KNOWN[random.nextInt(KNOWN.length)] : tree(random.nextInt(style == 2 ? 6 : 4));
            if (random.nextInt(5) == 0 && !text.isEmpty()) {
                int at = random.nextInt(text.length());
                char sign = "pqrst~&|>()  o".charAt(random.nextInt(14));
                text = text.substring(0, at) + (random.nextInt(4) == 0 ? "" : sign) + text.substring(at + random.nextInt(2));
            }
            return text;
        }

        /** Formulas that have ranks or many positions, which random ones seldom have. */
        private static final String[] KNOWN = {
            "((p>q)>p)>p", "p&q>q&p", "p|q>q|p", "~~(p|~p)", "(p>q)>(q>r)>p>r", "(p>q>r)>(p>q)>p>r",
            "~(p|q)>~p&~q", "~p&~q>~(p|q)", "~(p&q)>~p|~q", "~p|~q>~(p&q)", "(p|q)&r>p&r|q&r", "p&(q|r)>p&q|p&r",
            "(p>q)>~q>~p", "(~q>~p)>p>q", "~~~p>~p", "(p>q)|(q>p)", "(p>r)&(q>r)>p|q>r", "p>p", "~(p&~p)",
            "(p|q)&~p>q", "~~p>p", "p|(q>r)>(p|q>p|r)", "~~(~~p>p)", "((p>q)>r)>(p>r)>r", "(p>q|r)>(p>q)|(p>r)",
        };

        private String tree(int depth) {
            int atoms = style == 0 ? 2 : 4;
            if (depth == 0) return "" + "pqrs".charAt(random.nextInt(atoms));
            switch (random.nextInt(7)) {
                case 0: return "~" + bracket(tree(depth - 1));
                case 1: return tree(depth - 1) + "&" + tree(depth - 1);
                case 2: return tree(depth - 1) + "|" + tree(depth - 1);
                case 3: return tree(depth - 1) + ">" + tree(depth - 1);
                case 4: return bracket(tree(depth - 1)) + ">" + tree(depth - 1);
                case 5: return bracket(tree(depth - 1));
                default: return tree(0) + ">" + bracket(tree(depth - 1));
            }
        }

        private String bracket(String text) {
            return text.length() > 1 ? "(" + text + ")" : text;
        }

        private void planQuestion() {
            switch (random.nextInt(6)) {
                case 0: add("kind", formula()); break;
                case 1: add("part", formula(), near(2)); break;
                case 2: add("size", formula()); break;
                case 3: add("subformulas", formula()); break;
                case 4: add("truthTable", formula()); break;
                default: add("isEquivalent", formula(), formula()); break;
            }
        }

        private void planRank() {
            switch (random.nextInt(4)) {
                case 0: case 1: add("rank", formula(), near(2)); break;
                case 2: add("positionCount", formula(), near(2)); break;
                default: add("manners", formula()); break;
            }
        }

        private void planDialogue() {
            int moves = model.moves == null ? 1 : Math.max(1, model.moves.size());
            int n = random.nextInt(14);
            if (n == 0 || (model.moves == null && n < 6 && random.nextInt(4) > 0)) add("begin", formula(), near(2), random.nextInt(3) > 0 ? 0 : near(2));
            else if (n == 1) add("claims");
            else if (n == 2) add("defences");
            else if (n == 3) add("moveCount");
            else if (n == 4) add("move", near(moves), near(3));
            else if (n == 5) add("positionRank");
            else if (n == 6) add("bestMove");
            else if (n == 7) add("hardestReply", near(moves));
            else if (n == 8) add("takeBack");
            else if (n == 9 && random.nextInt(4) == 0) for (int k = 0; k < 22; k++) add("play", random.nextInt(moves), 0);
            else add("play", near(moves), random.nextInt(3));
        }

        private void planArray() {
            int slot = near(4);
            int index = random.nextInt(4) == 0 ? near(40) : random.nextInt(4);
            switch (random.nextInt(10)) {
                case 0: add("allocate", slot, near(4), random.nextInt(8) == 0 ? wild() : random.nextInt(41)); break;
                case 1: if (random.nextInt(4) == 0) add("release", slot); else add("element", slot, index); break;
                case 2: case 3: add("putElement", slot, index, value()); add("element", slot, index); break;
                case 4: case 5: case 6: add("compute", slot, index, near(2), operand()); add("element", slot, index); break;
                case 7: add("copyElements", slot, near(10), near(4), near(10), near(20)); break;
                case 8: planReplay(); break;
                default: add("element", slot, index); break;
            }
        }

        private void planReplay() {
            int slot = random.nextInt(4);
            if (random.nextBoolean()) {
                add("allocate", slot, 0, random.nextInt(4) == 0 ? 40 : random.nextInt(12));
                for (int k = 0; k < 6; k++) add("putElement", slot, k, random.nextInt(5) == 0 ? random.nextInt(4) : 0);
            }
            add("replay", near(4), formula(), near(2));
            add("replay", slot, formula(), near(2));
            add(random.nextBoolean() ? "moveCount" : "claims");
        }
    }

    record Form(int kind, int a, int b) { }

    record Place(TreeSet<Integer> claims, TreeSet<Integer> open) { }

    /** replies holds the positions after each reply. */
    record Move(int type, int formula, List<Place> replies) { }

    static final class Stop extends RuntimeException {
        private static final long serialVersionUID = 1L;
        final int code;

        Stop(int code) {
            super(null, null, false, false);
            this.code = code;
        }
    }

    static final class Model {
        List<Form> forms = new ArrayList<>();
        final StringBuilder input = new StringBuilder();
        final Object[] arrays = new Object[4];
        List<Place> past = new ArrayList<>();
        Place here;
        List<Move> moves;
        int manner;
        boolean begun;
        boolean won;

        Model() {
            for (int k = 0; k < 4; k++) forms.add(new Form(0, -1, -1));
        }

        long call(String call) {
            String[] w = call.split(" ");
            long[] a = new long[w.length - 1];
            int[] i = new int[a.length];
            for (int k = 0; k < a.length; k++) {
                a[k] = Long.parseLong(w[k + 1]);
                i[k] = (int) a[k];
            }
            List<Form> before = new ArrayList<>(forms);
            try {
                return answer(w[0], i, a);
            } catch (Stop stop) {
                forms = before;
                return stop.code;
            }
        }

        private long answer(String name, int[] i, long[] a) {
            switch (name) {
                case "reset": {
                    int n = forms.size();
                    forms = new ArrayList<>(forms.subList(0, 4));
                    begun = false;
                    moves = null;
                    past.clear();
                    return n;
                }
                case "formulaCount": return forms.size();
                case "append":
                    need(i[0] >= 0 && i[0] <= 127 && i[1] >= 1 && i[1] <= 40, -1);
                    need(input.length() + i[1] <= 40, -3);
                    for (int k = 0; k < i[1]; k++) input.append((char) i[0]);
                    return input.length();
                case "clearInput": return take().length();
                case "parse": return new Descent(take()).whole();
                case "negate": known(i[0]); return make(1, i[0], -1);
                case "combine":
                    need(i[0] >= 2 && i[0] <= 4, -1);
                    known(i[1]);
                    known(i[2]);
                    return make(i[0], i[1], i[2]);
                case "kind": known(i[0]); return forms.get(i[0]).kind();
                case "part": {
                    known(i[0]);
                    need(i[1] == 0 || i[1] == 1, -1);
                    int part = i[1] == 0 ? forms.get(i[0]).a() : forms.get(i[0]).b();
                    need(part >= 0, -5);
                    return part;
                }
                case "size": known(i[0]); return sizeOf(i[0]);
                case "subformulas": {
                    if (i[0] < 0 || i[0] >= forms.size()) return Long.MIN_VALUE;
                    TreeSet<Integer> set = new TreeSet<>();
                    collect(i[0], set);
                    return bits(set);
                }
                case "truthTable": known(i[0]); return table(i[0]);
                case "isEquivalent": known(i[0]); known(i[1]); return table(i[0]) == table(i[1]) ? 1 : 0;
                case "transform": return transform(take(), i[0]);
                case "rank": known(i[0]); need(i[1] == 0 || i[1] == 1, -1); return none(rank(i[0], i[1]));
                case "positionCount":
                    known(i[0]);
                    need(i[1] == 0 || i[1] == 1, -1);
                    return family(attacks(i[0], empty(), i[1]), i[1]).size();
                case "manners": {
                    known(i[0]);
                    int intuitionistic = rank(i[0], 0);
                    int classical = rank(i[0], 1);
                    return (classical > 0 ? 1 : 0) + (intuitionistic > 0 ? 2 : 0);
                }
                default: return answerDialogue(name, i, a);
            }
        }

        private long answerDialogue(String name, int[] i, long[] a) {
            switch (name) {
                case "begin":
                    known(i[0]);
                    need(forms.get(i[0]).kind() != 0 && (i[1] == 0 || i[1] == 1), -1);
                    need(i[2] == 0 || (i[2] == 1 && forms.get(i[0]).kind() == 2), -1);
                    start(i[0], i[1], i[2]);
                    return moves.size();
                case "claims": return moves == null ? Long.MIN_VALUE : bits(here.claims());
                case "defences": return moves == null ? Long.MIN_VALUE : bits(here.open());
                case "moveCount": need(moves != null, -7); return moves.size();
                case "move": {
                    need(moves != null, -7);
                    need(i[1] >= 0 && i[1] <= 2, -1);
                    need(i[0] >= 0 && i[0] < moves.size(), -5);
                    Move m = moves.get(i[0]);
                    return i[1] == 0 ? m.type() : i[1] == 1 ? m.formula() : m.replies().size();
                }
                case "play": return play(i[0], i[1]);
                case "takeBack":
                    need(begun && !past.isEmpty(), -5);
                    won = false;
                    goTo(past.remove(past.size() - 1));
                    return past.size();
                case "positionRank": need(moves != null, -7); return none(ranks(List.of(here), manner).getOrDefault(here, 0));
                case "bestMove": {
                    need(moves != null, -7);
                    Map<Place, Integer> ranks = ranks(List.of(here), manner);
                    need(ranks.containsKey(here), -5);
                    for (int m = 0; m < moves.size(); m++) {
                        boolean good = true;
                        for (Place p : moves.get(m).replies()) good &= ranks.containsKey(p) && ranks.get(p) < ranks.get(here);
                        if (good) return m;
                    }
                    throw new AssertionError("a rank without a move");
                }
                case "hardestReply": {
                    need(moves != null, -7);
                    Map<Place, Integer> ranks = ranks(List.of(here), manner);
                    need(i[0] >= 0 && i[0] < moves.size(), -5);
                    int best = -5;
                    int high = -1;
                    List<Place> replies = moves.get(i[0]).replies();
                    for (int r = 0; r < replies.size(); r++) {
                        int rank = ranks.getOrDefault(replies.get(r), 9999);
                        if (rank > high) {
                            high = rank;
                            best = r;
                        }
                    }
                    return best;
                }
                default: return answerArrays(name, i, a);
            }
        }

        private long answerArrays(String name, int[] i, long[] a) {
            if (name.equals("element")) {
                if (i[0] < 0 || i[0] > 3 || arrays[i[0]] == null) return Long.MIN_VALUE;
                if (i[1] < 0 || i[1] >= java.lang.reflect.Array.getLength(arrays[i[0]])) return Long.MIN_VALUE;
                Object array = arrays[i[0]];
                if (array instanceof byte[] b) return b[i[1]];
                if (array instanceof long[] l) return l[i[1]];
                if (array instanceof float[] f) return (long) f[i[1]];
                return (long) ((double[]) array)[i[1]];
            }
            need(i[0] >= 0 && i[0] <= 3, -1);
            Object array = arrays[i[0]];
            switch (name) {
                case "allocate":
                    need(i[1] >= 0 && i[1] <= 3 && i[2] <= 40, -1);
                    need(i[2] >= 0, -14);
                    arrays[i[0]] = i[1] == 0 ? new byte[i[2]] : i[1] == 1 ? new long[i[2]] : i[1] == 2 ? new float[i[2]] : (Object) new double[i[2]];
                    return i[2];
                case "release": arrays[i[0]] = null; return array == null ? 0 : 1;
                case "putElement":
                    need(array != null, -11);
                    need(i[1] >= 0 && i[1] < java.lang.reflect.Array.getLength(array), -13);
                    if (array instanceof byte[] b) b[i[1]] = (byte) a[2];
                    if (array instanceof long[] l) l[i[1]] = a[2];
                    if (array instanceof float[] f) f[i[1]] = (float) a[2];
                    if (array instanceof double[] d) d[i[1]] = (double) a[2];
                    return 1;
                case "compute":
                    need(i[2] == 0 || i[2] == 1, -1);
                    need(array != null, -11);
                    need(array instanceof float[] || array instanceof double[], -12);
                    need(i[1] >= 0 && i[1] < java.lang.reflect.Array.getLength(array), -13);
                    if (array instanceof float[] f) f[i[1]] = i[2] == 0 ? f[i[1]] / i[3] : f[i[1]] % i[3];
                    if (array instanceof double[] d) d[i[1]] = i[2] == 0 ? d[i[1]] / i[3] : d[i[1]] % i[3];
                    return 1;
                case "copyElements":
                    need(i[2] >= 0 && i[2] <= 3, -1);
                    need(array != null && arrays[i[2]] != null, -11);
                    need(array.getClass() == arrays[i[2]].getClass(), -12);
                    try {
                        System.arraycopy(array, i[1], arrays[i[2]], i[3], i[4]);
                    } catch (IndexOutOfBoundsException e) {
                        throw new Stop(-13);
                    }
                    return i[4];
                case "replay": {
                    need(array != null, -11);
                    need(array instanceof byte[], -12);
                    known(i[1]);
                    need(forms.get(i[1]).kind() != 0 && (i[2] == 0 || i[2] == 1), -1);
                    start(i[1], i[2], 0);
                    byte[] b = (byte[]) array;
                    int at = 0;
                    try {
                        while (at + 1 < b.length && !won) {
                            play(b[at], b[at + 1]);
                            at += 2;
                        }
                    } catch (Stop stop) {
                        return past.size();
                    }
                    return past.size() + (won ? 1000 : 0);
                }
                default: throw new AssertionError(name);
            }
        }

        private String take() {
            String text = input.toString();
            input.setLength(0);
            return text;
        }

        private static void need(boolean holds, int code) {
            if (!holds) throw new Stop(code);
        }

        private void known(int formula) {
            need(formula >= 0 && formula < forms.size(), -2);
        }

        private static int none(int rank) {
            return rank == 0 ? -5 : rank;
        }

        private int make(int kind, int a, int b) {
            Form form = new Form(kind, a, b);
            if (!forms.contains(form)) {
                need(forms.size() < 40, -3);
                forms.add(form);
            }
            return forms.indexOf(form);
        }

        private int sizeOf(int formula) {
            Form f = forms.get(formula);
            if (f.kind() == 0) return 1;
            long sum = 1L + sizeOf(f.a());
            if (f.b() >= 0 && sum < 1000) sum += sizeOf(f.b());
            return (int) Math.min(1000, sum);
        }

        private void collect(int formula, Set<Integer> set) {
            if (formula < 0 || !set.add(formula)) return;
            collect(forms.get(formula).a(), set);
            collect(forms.get(formula).b(), set);
        }

        private int table(int formula) {
            int table = 0;
            for (int row = 0; row < 16; row++) {
                boolean[] holds = new boolean[forms.size()];
                for (int k = 0; k < holds.length; k++) {
                    Form f = forms.get(k);
                    switch (f.kind()) {
                        case 0: holds[k] = (row & (1 << k)) != 0; break;
                        case 1: holds[k] = !holds[f.a()]; break;
                        case 2: holds[k] = holds[f.a()] && holds[f.b()]; break;
                        case 3: holds[k] = holds[f.a()] || holds[f.b()]; break;
                        default: holds[k] = !holds[f.a()] || holds[f.b()]; break;
                    }
                }
                if (holds[formula]) table += 1 << row;
            }
            return table;
        }

        private int transform(String word, int formula) {
            known(formula);
            Form f = forms.get(formula);
            switch (word) {
                case "negate": return make(1, formula, -1);
                case "double": return make(1, make(1, formula, -1), -1);
                case "commute":
                    need(f.kind() == 2 || f.kind() == 3, -4);
                    return make(f.kind(), f.b(), f.a());
                case "contrapose":
                    need(f.kind() == 4, -4);
                    return make(4, make(1, f.b(), -1), make(1, f.a(), -1));
                case "translate": return translate(formula, new HashMap<>());
                default: throw new Stop(-4);
            }
        }

        private int translate(int formula, Map<Integer, Integer> known) {
            if (!known.containsKey(formula)) {
                Form f = forms.get(formula);
                int made;
                if (f.kind() == 0) made = make(1, make(1, formula, -1), -1);
                else if (f.kind() == 1) made = make(1, translate(f.a(), known), -1);
                else if (f.kind() == 3) made = make(1, make(2, make(1, translate(f.a(), known), -1), make(1, translate(f.b(), known), -1)), -1);
                else made = make(f.kind(), translate(f.a(), known), translate(f.b(), known));
                known.put(formula, made);
            }
            return known.get(formula);
        }

        private static long bits(Set<Integer> set) {
            long bits = 0;
            for (int k : set) bits |= 1L << k;
            return bits;
        }

        private static Place empty() {
            return new Place(new TreeSet<>(), new TreeSet<>());
        }

        private static Place with(Place from, Set<Integer> claimed, Set<Integer> open) {
            Place to = new Place(new TreeSet<>(from.claims()), new TreeSet<>(open));
            to.claims().addAll(claimed);
            return to;
        }

        private static Place attacked(Place from, Set<Integer> claimed, Set<Integer> defences, int manner) {
            Set<Integer> open = new TreeSet<>(defences);
            if (manner == 1) open.addAll(from.open());
            return with(from, claimed, open);
        }

        private List<Place> attacks(int formula, Place from, int manner) {
            Form f = forms.get(formula);
            List<Place> after = new ArrayList<>();
            if (f.kind() == 1) after.add(attacked(from, Set.of(f.a()), Set.of(), manner));
            if (f.kind() == 2) {
                after.add(attacked(from, Set.of(), Set.of(f.a()), manner));
                after.add(attacked(from, Set.of(), Set.of(f.b()), manner));
            }
            if (f.kind() == 3) after.add(attacked(from, Set.of(), new TreeSet<>(List.of(f.a(), f.b())), manner));
            if (f.kind() == 4) after.add(attacked(from, Set.of(f.a()), Set.of(f.b()), manner));
            return after;
        }

        private boolean sayable(int formula, Place from) {
            return formula > 3 || from.claims().contains(formula);
        }

        private List<Move> movesIn(Place from, int manner) {
            List<Move> list = new ArrayList<>();
            for (int x : from.open()) if (sayable(x, from)) list.add(new Move(0, x, attacks(x, from, manner)));
            for (int x : from.claims()) {
                Form f = forms.get(x);
                if (f.kind() == 1 && sayable(f.a(), from)) list.add(new Move(1, x, attacks(f.a(), from, manner)));
                if (f.kind() == 2) {
                    list.add(new Move(2, x, List.of(with(from, Set.of(f.a()), from.open()))));
                    list.add(new Move(3, x, List.of(with(from, Set.of(f.b()), from.open()))));
                }
                if (f.kind() == 3) list.add(new Move(1, x, List.of(with(from, Set.of(f.a()), from.open()), with(from, Set.of(f.b()), from.open()))));
                if (f.kind() == 4 && sayable(f.a(), from)) {
                    List<Place> replies = attacks(f.a(), from, manner);
                    replies.add(with(from, Set.of(f.b()), from.open()));
                    list.add(new Move(1, x, replies));
                }
            }
            return list;
        }

        private Map<Place, List<Move>> family(List<Place> starts, int manner) {
            Map<Place, List<Move>> known = new HashMap<>();
            LinkedHashSet<Place> waiting = new LinkedHashSet<>(starts);
            while (!waiting.isEmpty()) {
                Place p = waiting.iterator().next();
                waiting.remove(p);
                List<Move> list = movesIn(p, manner);
                known.put(p, list);
                for (Move m : list) for (Place q : m.replies()) if (!known.containsKey(q)) waiting.add(q);
                need(known.size() + waiting.size() <= 300, -6);
            }
            return known;
        }

        /** By values that fall from "never" until nothing changes, not level by level. */
        private Map<Place, Integer> ranks(List<Place> starts, int manner) {
            Map<Place, List<Move>> known = family(starts, manner);
            Map<Place, Integer> ranks = new HashMap<>();
            boolean changed = true;
            while (changed) {
                changed = false;
                for (Map.Entry<Place, List<Move>> entry : known.entrySet()) {
                    int best = ranks.getOrDefault(entry.getKey(), 9999);
                    for (Move m : entry.getValue()) {
                        int worst = 0;
                        for (Place q : m.replies()) worst = Math.max(worst, ranks.getOrDefault(q, 9999));
                        if (worst + 1 < best) {
                            best = worst + 1;
                            ranks.put(entry.getKey(), best);
                            changed = true;
                        }
                    }
                }
            }
            return ranks;
        }

        private int rank(int formula, int manner) {
            List<Place> starts = attacks(formula, empty(), manner);
            Map<Place, Integer> ranks = ranks(starts, manner);
            int high = 0;
            for (Place p : starts) {
                if (!ranks.containsKey(p)) return 0;
                high = Math.max(high, ranks.get(p));
            }
            return high;
        }

        private void start(int formula, int newManner, int attack) {
            manner = newManner;
            begun = true;
            won = false;
            past = new ArrayList<>();
            goTo(attacks(formula, empty(), manner).get(attack));
        }

        private void goTo(Place place) {
            here = place;
            moves = movesIn(place, manner);
        }

        private int play(int move, int reply) {
            need(moves != null, -7);
            need(move >= 0 && move < moves.size(), -5);
            List<Place> replies = moves.get(move).replies();
            need(replies.isEmpty() || (reply >= 0 && reply < replies.size()), -1);
            need(past.size() < 20, -3);
            past.add(here);
            if (replies.isEmpty()) {
                won = true;
                moves = null;
                return 1000;
            }
            goTo(replies.get(reply));
            return moves.size();
        }

        /** The grammar of the document, rule by rule. */
        private final class Descent {
            private final String text;
            private int at;
            private boolean crowded;

            Descent(String text) {
                this.text = text;
            }

            int whole() {
                int made = implication();
                if (at < text.length()) throw new Stop(-1000 - at);
                need(!crowded, -3);
                return made;
            }

            private boolean sees(char sign) {
                return at < text.length() && text.charAt(at) == sign;
            }

            private int put(int kind, int a, int b) {
                try {
                    return crowded ? 0 : make(kind, a, b);
                } catch (Stop full) {
                    crowded = true;
                    return 0;
                }
            }

            private int implication() {
                int left = disjunction();
                if (!sees('>')) return left;
                at++;
                return put(4, left, implication());
            }

            private int disjunction() {
                int left = conjunction();
                while (sees('|')) {
                    at++;
                    left = put(3, left, conjunction());
                }
                return left;
            }

            private int conjunction() {
                int left = simple();
                while (sees('&')) {
                    at++;
                    left = put(2, left, simple());
                }
                return left;
            }

            private int simple() {
                if (sees('~')) {
                    at++;
                    return put(1, simple(), -1);
                }
                if (sees('(')) {
                    at++;
                    int inside = implication();
                    if (!sees(')')) throw new Stop(-1000 - at);
                    at++;
                    return inside;
                }
                if (at < text.length() && "pqrs".indexOf(text.charAt(at)) >= 0) return text.charAt(at++) - 'p';
                throw new Stop(-1000 - at);
            }
        }
    }
}
