/** What the boundary tests share: due answers, workbenches in known states, and twins. */
final class Bench {
    static final int LOW = Integer.MIN_VALUE;
    static final int HIGH = Integer.MAX_VALUE;
    static final long NO_VALUE = Long.MIN_VALUE;

    /** Numbers beside every range of the document; 64 is where a shift of a long begins anew. */
    static final int[] WILD = {LOW, -65, -41, -2, -1, 41, 64, 65, 128, 256, 65536, HIGH};

    private static int wrong = 0;
    private static int sentences = 0;
    private static String sentence = "";

    interface Maker {
        DialogueGames make();
    }

    interface Call {
        long on(DialogueGames x);
    }

    private interface View {
        String of(DialogueGames x);
    }

    private Bench() { }

    /** Names the sentence of the document that the following answers belong to. */
    static void says(String words) {
        sentence = words;
        sentences++;
    }

    static void due(String what, long got, long want) {
        if (got != want) fault(what + " answered " + got + ", due is " + want);
    }

    private static void fault(String text) {
        wrong++;
        System.out.println("[" + sentence + "] " + text);
    }

    static void finish() {
        System.out.println(wrong == 0 ? sentences + " boundary sentences hold" : wrong + " answers are not as due");
        if (wrong != 0) System.exit(1);
    }

    static void write(DialogueGames x, String text) {
        for (int k = 0; k < text.length(); ) {
            int end = k;
            while (end < text.length() && text.charAt(end) == text.charAt(k)) end++;
            due("append for " + text, x.append(text.charAt(k), end - k) < 0 ? 1 : 0, 0);
            k = end;
        }
    }

    static int parse(DialogueGames x, String text) {
        x.clearInput();
        write(x, text);
        return x.parse();
    }

    static int parseNew(String text) {
        return parse(new DialogueGames(), text);
    }

    static int transform(DialogueGames x, String word, int formula) {
        x.clearInput();
        write(x, word);
        return x.transform(formula);
    }

    /** Negations of negations of s, until there are that many formulas. */
    static DialogueGames filledTo(int count) {
        DialogueGames x = new DialogueGames();
        fill(x, count);
        return x;
    }

    static void fill(DialogueGames x, int count) {
        int last = 3;
        for (int k = 0; k < 80 && x.formulaCount() < count; k++) last = x.negate(last);
    }

    static void store(DialogueGames x, int slot, int type, long... values) {
        x.allocate(slot, type, values.length);
        for (int k = 0; k < values.length; k++) x.putElement(slot, k, values[k]);
    }

    static void bytes(DialogueGames x, int slot, long... values) {
        store(x, slot, 0, values);
    }

    /** Some formulas, a dialogue of two moves, a text, and an array of each type. */
    static DialogueGames busy() {
        DialogueGames x = new DialogueGames();
        x.begin(parse(x, "p&q>q&p"), 1, 0);
        x.play(1, 0);
        x.play(0, 1);
        store(x, 0, 0, 1, 0, 7);
        store(x, 1, 1, Long.MIN_VALUE, Long.MAX_VALUE, 5, -5);
        store(x, 2, 2, 10, 20, 30, 40, 50);
        x.compute(2, 1, 0, 0);
        store(x, 3, 3, -10, 0, 30, 40, 50, 60);
        x.compute(3, 0, 0, 0);
        x.compute(3, 1, 0, 0);
        x.compute(3, 2, 0, 7);
        write(x, "p|~p");
        return x;
    }

    /** 40 formulas, 20 moves, a text of 40 bytes, and an array of 40 elements of each type. */
    static DialogueGames crowded() {
        DialogueGames x = new DialogueGames();
        x.begin(parse(x, "p&q>q&p"), 0, 0);
        for (int k = 0; k < 20; k++) x.play(1 + k % 2, 0);
        fill(x, 40);
        for (int slot = 0; slot < 4; slot++) {
            x.allocate(slot, slot, 40);
            x.putElement(slot, 0, 11 + slot);
            x.putElement(slot, 39, 21 + slot);
        }
        write(x, "~" + "(".repeat(16) + "p&q>q&p" + ")".repeat(16));
        return x;
    }

    /** A dialogue that the proponent has won, and no arrays. */
    static DialogueGames over() {
        DialogueGames x = new DialogueGames();
        x.begin(parse(x, "p|~p"), 1, 0);
        x.play(0, 0);
        x.play(0, 0);
        write(x, "negate");
        return x;
    }

    static DialogueGames[] states() {
        return new DialogueGames[] {new DialogueGames(), busy(), crowded(), over()};
    }

    /** A refused call: the answer, and that the object stays like a twin that was not called. */
    static void refused(String what, Maker maker, Call call, long want) {
        refusedBut(false, what, maker, call, want);
    }

    /** A refused call of a method that reads the input buffer: all but its content stays. */
    static void refusedReading(String what, Maker maker, Call call, long want) {
        refusedBut(true, what, maker, call, want);
        DialogueGames x = maker.make();
        call.on(x);
        due(what + ": bytes left after it", x.clearInput(), 0);
    }

    private static void refusedBut(boolean reads, String what, Maker maker, Call call, long want) {
        View[] views = reads ? new View[] {Bench::formulas, Bench::dialogue, Bench::onward, Bench::arrays}
            : new View[] {Bench::formulas, Bench::dialogue, Bench::onward, Bench::arrays, Bench::inputLength, Bench::inputText, Bench::inputWord};
        for (View view : views) {
            DialogueGames called = maker.make();
            due(what, call.on(called), want);
            String after = view.of(called);
            String before = view.of(maker.make());
            if (!after.equals(before)) fault(what + " changed the state from " + before + " to " + after);
        }
    }

    private static String formulas(DialogueGames x) {
        StringBuilder text = new StringBuilder("formulas " + x.formulaCount());
        for (int k = 0; k < 41; k++) text.append(' ').append(x.kind(k)).append('/').append(x.part(k, 0)).append('/').append(x.part(k, 1));
        return text.toString();
    }

    private static String position(DialogueGames x) {
        return " " + x.claims() + "/" + x.defences() + "/" + x.moveCount();
    }

    private static String dialogue(DialogueGames x) {
        StringBuilder text = new StringBuilder("dialogue" + position(x));
        for (int k = 0; k < 21; k++) text.append(" back ").append(x.takeBack()).append(position(x));
        return text.toString();
    }

    /** The manner can be seen only from how the dialogue goes on. */
    private static String onward(DialogueGames x) {
        StringBuilder text = new StringBuilder("onward rank " + x.positionRank());
        for (int k = 0; k < 3; k++) text.append(" play ").append(x.play(0, 0)).append(position(x));
        return text.toString();
    }

    /** Each array's type and size are seen from calls that change nothing. */
    private static String arrays(DialogueGames x) {
        StringBuilder text = new StringBuilder("arrays");
        for (int slot = 0; slot < 4; slot++) {
            text.append(" slot ").append(x.compute(slot, -1, 0, 1)).append('/').append(x.replay(slot, -1, 0));
            for (int other = 0; other < slot; other++) text.append('/').append(x.copyElements(slot, -1, other, 0, 0));
            text.append(" size ").append(sizeOf(x, slot)).append(':');
            for (int k = 0; k < 41; k++) text.append(' ').append(x.element(slot, k));
        }
        for (int k = 0; k < 4; k++) text.append(' ').append(x.compute(3, k, 0, -1)).append('=').append(x.element(3, k));
        return text.toString();
    }

    /** The size of an array, or -1 if the slot is empty, by copies of no element. */
    static int sizeOf(DialogueGames x, int slot) {
        int size = -1;
        while (size < 41 && x.copyElements(slot, size + 1, slot, size + 1, 0) == 0) size++;
        return size;
    }

    private static String inputLength(DialogueGames x) {
        return "input " + x.clearInput();
    }

    private static String inputText(DialogueGames x) {
        x.reset();
        return "text " + x.parse() + " of " + x.formulaCount();
    }

    private static String inputWord(DialogueGames x) {
        x.reset();
        return "word " + x.transform(0) + " of " + x.formulaCount();
    }
}
