import java.util.Arrays;

/**
 * A workbench for dialogue games of propositional logic (Lorenzen games): formulas, truth tables,
 * winning strategies of the proponent, dialogues that are played move by move, and translations.
 */
public final class DialogueGames {
    public static final int BAD_ARGUMENT = -1;
    public static final int NO_SUCH_FORMULA = -2;
    public static final int FULL = -3;
    public static final int BAD_INPUT = -4;
    public static final int NONE = -5;
    public static final int LIMIT_EXCEEDED = -6;
    public static final int NOT_PLAYING = -7;
    public static final int EMPTY_SLOT = -11;
    public static final int WRONG_TYPE = -12;
    public static final int INDEX_OUT_OF_RANGE = -13;
    public static final int NEGATIVE_SIZE = -14;
    public static final int WON = 1000;
    public static final long NO_VALUE = Long.MIN_VALUE;

    private static final int INTUITIONISTIC = 0;
    private static final int CLASSICAL = 1;

    private static final int SLOTS = 4;
    private static final int DIVIDE = 0;
    private static final int REMAINDER = 1;

    private static final int TEXT_FAULT = -1000;

    private final Formulas formulas;
    private final Input input;
    private final TextReader textReader;
    private final Transformer transformer;
    private final Dialogue dialogue;
    private final Search search;
    private final Slot[] slots;

    public DialogueGames() {
        formulas = new Formulas();
        input = new Input();
        textReader = new TextReader(formulas);
        transformer = new Transformer(formulas);
        dialogue = new Dialogue(formulas);
        search = new Search(formulas);
        slots = new Slot[SLOTS];
        for (int k = 0; k < SLOTS; k++) {
            slots[k] = new Slot();
        }
    }

    public int reset() {
        int before = formulas.count;
        formulas.shrinkTo(Formulas.ATOMS);
        dialogue.drop();
        return before;
    }

    public int formulaCount() {
        return formulas.count;
    }

    public int append(int value, int count) {
        if (value < 0 || value > Input.MAX_BYTE || count < 1 || count > Input.CAPACITY) {
            return BAD_ARGUMENT;
        }
        return input.add(value, count) ? input.length : FULL;
    }

    public int clearInput() {
        int before = input.length;
        input.length = 0;
        return before;
    }

    public int parse() {
        int fault = textReader.faultIn(input);
        int answer = fault >= 0 ? TEXT_FAULT - fault : textReader.build(input);
        input.length = 0;
        return answer;
    }

    public int negate(int formula) {
        if (!formulas.has(formula)) {
            return NO_SUCH_FORMULA;
        }
        return formulas.negationOf(formula);
    }

    public int combine(int kind, int first, int second) {
        if (kind < Formulas.CONJUNCTION || kind > Formulas.IMPLICATION) {
            return BAD_ARGUMENT;
        }
        if (!formulas.has(first) || !formulas.has(second)) {
            return NO_SUCH_FORMULA;
        }
        return formulas.make(kind, first, second);
    }

    public int kind(int formula) {
        return formulas.has(formula) ? formulas.kindOf(formula) : NO_SUCH_FORMULA;
    }

    public int part(int formula, int which) {
        if (!formulas.has(formula)) {
            return NO_SUCH_FORMULA;
        }
        if (which != 0 && which != 1) {
            return BAD_ARGUMENT;
        }
        int part = which == 0 ? formulas.firstOf(formula) : formulas.secondOf(formula);
        return part == Formulas.NO_PART ? NONE : part;
    }

    public int size(int formula) {
        return formulas.has(formula) ? formulas.sizes[formula] : NO_SUCH_FORMULA;
    }

    public long subformulas(int formula) {
        return formulas.has(formula) ? formulas.subsets[formula] : NO_VALUE;
    }

    public int truthTable(int formula) {
        return formulas.has(formula) ? formulas.tables[formula] : NO_SUCH_FORMULA;
    }

    public int isEquivalent(int first, int second) {
        if (!formulas.has(first) || !formulas.has(second)) {
            return NO_SUCH_FORMULA;
        }
        return formulas.tables[first] == formulas.tables[second] ? 1 : 0;
    }

    public int transform(int formula) {
        int word = transformer.wordIn(input);
        input.length = 0;
        if (!formulas.has(formula)) {
            return NO_SUCH_FORMULA;
        }
        if (!transformer.applies(word, formula)) {
            return BAD_INPUT;
        }
        int before = formulas.count;
        int made = transformer.makeBy(word, formula);
        if (made < 0) {
            formulas.shrinkTo(before);
        }
        return made;
    }

    public int rank(int formula, int manner) {
        if (!formulas.has(formula)) {
            return NO_SUCH_FORMULA;
        }
        if (!isManner(manner)) {
            return BAD_ARGUMENT;
        }
        return rankIn(formula, manner);
    }

    public int positionCount(int formula, int manner) {
        if (!formulas.has(formula)) {
            return NO_SUCH_FORMULA;
        }
        if (!isManner(manner)) {
            return BAD_ARGUMENT;
        }
        search.startFromFormula(formula, manner);
        return search.explore() ? search.total : LIMIT_EXCEEDED;
    }

    public int manners(int formula) {
        if (!formulas.has(formula)) {
            return NO_SUCH_FORMULA;
        }
        int classical = rankIn(formula, CLASSICAL);
        int intuitionistic = rankIn(formula, INTUITIONISTIC);
        if (classical == LIMIT_EXCEEDED || intuitionistic == LIMIT_EXCEEDED) {
            return LIMIT_EXCEEDED;
        }
        return (classical > 0 ? 1 : 0) + (intuitionistic > 0 ? 2 : 0);
    }

    public int begin(int formula, int manner, int attack) {
        if (!formulas.has(formula)) {
            return NO_SUCH_FORMULA;
        }
        if (!isManner(manner) || attack < 0 || attack >= formulas.attacksOn(formula)) {
            return BAD_ARGUMENT;
        }
        dialogue.open(formula, manner, attack);
        return dialogue.board.moveTotal;
    }

    public long claims() {
        return dialogue.isOn() ? dialogue.board.claimed : NO_VALUE;
    }

    public long defences() {
        return dialogue.isOn() ? dialogue.board.open : NO_VALUE;
    }

    public int moveCount() {
        return dialogue.isOn() ? dialogue.board.moveTotal : NOT_PLAYING;
    }

    public int move(int move, int what) {
        if (!dialogue.isOn()) {
            return NOT_PLAYING;
        }
        if (what < 0 || what > 2) {
            return BAD_ARGUMENT;
        }
        Board board = dialogue.board;
        if (!board.hasMove(move)) {
            return NONE;
        }
        if (what == 2) {
            return board.repliesTo(move);
        }
        return what == 0 ? board.moveTypes[move] : board.moveFormulas[move];
    }

    public int play(int move, int reply) {
        return dialogue.advance(move, reply);
    }

    public int takeBack() {
        return dialogue.stepBack() ? dialogue.played : NONE;
    }

    public int positionRank() {
        int answer = presentRank();
        return answer == 0 ? NONE : answer;
    }

    public int bestMove() {
        int present = presentRank();
        if (present <= 0) {
            return present == 0 ? NONE : present;
        }
        for (int k = 0; k < dialogue.board.moveTotal; k++) {
            int longest = longestAfter(k);
            if (longest >= 0 && longest < present) {
                return k;
            }
        }
        return NONE;
    }

    public int hardestReply(int move) {
        int present = presentRank();
        if (present < 0) {
            return present;
        }
        int hardest = NONE;
        int highest = 0;
        int replies = dialogue.board.repliesTo(move);
        for (int reply = 0; reply < replies; reply++) {
            int next = rankAfter(move, reply);
            if (next == 0) {
                return reply;
            }
            if (next > highest) {
                highest = next;
                hardest = reply;
            }
        }
        return hardest;
    }

    public int allocate(int slot, int type, int size) {
        Slot held = slotAt(slot);
        if (held == null || type < Slot.BYTES || type > Slot.DOUBLES || size > Slot.CAPACITY) {
            return BAD_ARGUMENT;
        }
        if (size < 0) {
            return NEGATIVE_SIZE;
        }
        held.fillAnew(type, size);
        return size;
    }

    public int release(int slot) {
        Slot held = slotAt(slot);
        if (held == null) {
            return BAD_ARGUMENT;
        }
        return held.drop() ? 1 : 0;
    }

    public int putElement(int slot, int index, long value) {
        Slot held = slotAt(slot);
        if (held == null) {
            return BAD_ARGUMENT;
        }
        if (held.isEmpty()) {
            return EMPTY_SLOT;
        }
        if (!held.covers(index, 1)) {
            return INDEX_OUT_OF_RANGE;
        }
        held.write(index, value);
        return 1;
    }

    public long element(int slot, int index) {
        Slot held = slotAt(slot);
        if (held == null || held.isEmpty() || !held.covers(index, 1)) {
            return NO_VALUE;
        }
        return held.read(index);
    }

    public int compute(int slot, int index, int operation, int operand) {
        Slot held = slotAt(slot);
        if (held == null || (operation != DIVIDE && operation != REMAINDER)) {
            return BAD_ARGUMENT;
        }
        if (held.isEmpty()) {
            return EMPTY_SLOT;
        }
        if (!held.holdsReals()) {
            return WRONG_TYPE;
        }
        if (!held.covers(index, 1)) {
            return INDEX_OUT_OF_RANGE;
        }
        if (operation == DIVIDE) {
            held.divide(index, operand);
        } else {
            held.keepRemainder(index, operand);
        }
        return 1;
    }

    public int copyElements(int source, int sourceIndex, int target, int targetIndex, int count) {
        Slot from = slotAt(source);
        Slot to = slotAt(target);
        if (from == null || to == null) {
            return BAD_ARGUMENT;
        }
        if (from.isEmpty() || to.isEmpty()) {
            return EMPTY_SLOT;
        }
        if (from.type != to.type) {
            return WRONG_TYPE;
        }
        if (!from.covers(sourceIndex, count) || !to.covers(targetIndex, count)) {
            return INDEX_OUT_OF_RANGE;
        }
        from.copyTo(sourceIndex, to, targetIndex, count);
        return count;
    }

    public int replay(int slot, int formula, int manner) {
        Slot held = slotAt(slot);
        if (held == null) {
            return BAD_ARGUMENT;
        }
        if (held.isEmpty()) {
            return EMPTY_SLOT;
        }
        if (held.type != Slot.BYTES) {
            return WRONG_TYPE;
        }
        if (!formulas.has(formula)) {
            return NO_SUCH_FORMULA;
        }
        if (!isManner(manner) || formulas.attacksOn(formula) == 0) {
            return BAD_ARGUMENT;
        }
        dialogue.open(formula, manner, 0);
        return playStored(held);
    }

    private int playStored(Slot held) {
        for (int k = 0; k + 1 < held.length; k += 2) {
            int answer = dialogue.advance((int) held.read(k), (int) held.read(k + 1));
            if (answer == WON) {
                return dialogue.played + WON;
            }
            if (answer < 0) {
                return dialogue.played;
            }
        }
        return dialogue.played;
    }

    private static boolean isManner(int manner) {
        return manner == INTUITIONISTIC || manner == CLASSICAL;
    }

    private Slot slotAt(int slot) {
        return slot >= 0 && slot < slots.length ? slots[slot] : null;
    }

    private int rankIn(int formula, int manner) {
        search.startFromFormula(formula, manner);
        if (!search.explore()) {
            return LIMIT_EXCEEDED;
        }
        search.settleRanks();
        int highest = search.highestStartRank();
        return highest == 0 ? NONE : highest;
    }

    /** The rank of the present position, 0 if it has none, or the error code that the callers return. */
    private int presentRank() {
        if (!dialogue.isOn()) {
            return NOT_PLAYING;
        }
        Board board = dialogue.board;
        search.startFromPosition(board.claimed, board.open, board.manner);
        if (!search.explore()) {
            return LIMIT_EXCEEDED;
        }
        search.settleRanks();
        return search.highestStartRank();
    }

    private int rankAfter(int move, int reply) {
        Board board = dialogue.board;
        board.answer(move, reply);
        return search.rankOf(board.nextClaimed, board.nextOpen);
    }

    /** How many moves the proponent needs at most after a move: NONE if a reply leads to no rank. */
    private int longestAfter(int move) {
        int longest = 0;
        int replies = dialogue.board.repliesTo(move);
        for (int reply = 0; reply < replies; reply++) {
            int next = rankAfter(move, reply);
            if (next == 0) {
                return NONE;
            }
            longest = Math.max(longest, next);
        }
        return longest;
    }

    /** The formulas, each with what is known of it from the moment when it is made. */
    private static final class Formulas {
        static final int CAPACITY = 40;
        static final int ATOMS = 4;
        static final int NO_PART = -1;

        static final int ATOM = 0;
        static final int NEGATION = 1;
        static final int CONJUNCTION = 2;
        static final int DISJUNCTION = 3;
        static final int IMPLICATION = 4;

        private static final int ALL_ROWS = 0xFFFF;
        private static final int MAX_SIZE = 1000;

        private final int[] kinds = new int[CAPACITY];
        private final int[] firsts = new int[CAPACITY];
        private final int[] seconds = new int[CAPACITY];
        final int[] sizes = new int[CAPACITY];
        final int[] tables = new int[CAPACITY];
        final long[] subsets = new long[CAPACITY];
        int count;

        Formulas() {
            for (int atom = 0; atom < ATOMS; atom++) {
                kinds[atom] = ATOM;
                firsts[atom] = NO_PART;
                seconds[atom] = NO_PART;
                sizes[atom] = 1;
                tables[atom] = atomTable(atom);
                subsets[atom] = 1L << atom;
            }
            count = ATOMS;
        }

        private static int atomTable(int atom) {
            int table = 0;
            for (int row = 0; row < 16; row++) {
                table |= ((row >> atom) & 1) << row;
            }
            return table;
        }

        boolean has(int formula) {
            return formula >= 0 && formula < count;
        }

        int kindOf(int formula) {
            return formula >= 0 && formula < count ? kinds[formula] : ATOM;
        }

        int firstOf(int formula) {
            return formula >= 0 && formula < count ? firsts[formula] : NO_PART;
        }

        int secondOf(int formula) {
            return formula >= 0 && formula < count ? seconds[formula] : NO_PART;
        }

        int attacksOn(int formula) {
            int kind = kindOf(formula);
            if (kind == ATOM) {
                return 0;
            }
            return kind == CONJUNCTION ? 2 : 1;
        }

        void shrinkTo(int newCount) {
            if (newCount >= ATOMS && newCount <= count) {
                count = newCount;
            }
        }

        int negationOf(int formula) {
            return make(NEGATION, formula, NO_PART);
        }

        /** Answers FULL also for parts that are not there, so that calls can be nested. */
        int make(int kind, int first, int second) {
            boolean single = kind == NEGATION;
            if (!has(first) || (!single && !has(second))) {
                return FULL;
            }
            int existing = find(kind, first, second);
            if (existing >= 0) {
                return existing;
            }
            if (count >= CAPACITY) {
                return FULL;
            }
            int added = count;
            kinds[added] = kind;
            firsts[added] = first;
            seconds[added] = second;
            sizes[added] = Math.min(MAX_SIZE, 1 + sizes[first] + (single ? 0 : sizes[second]));
            tables[added] = tableOf(kind, tables[first], single ? 0 : tables[second]);
            subsets[added] = (1L << added) | subsets[first] | (single ? 0L : subsets[second]);
            count = added + 1;
            return added;
        }

        private int find(int kind, int first, int second) {
            for (int k = ATOMS; k < count; k++) {
                if (kinds[k] == kind && firsts[k] == first && seconds[k] == second) {
                    return k;
                }
            }
            return NO_PART;
        }

        private static int tableOf(int kind, int first, int second) {
            switch (kind) {
                case NEGATION:
                    return ~first & ALL_ROWS;
                case CONJUNCTION:
                    return first & second;
                case DISJUNCTION:
                    return first | second;
                default:
                    return (~first | second) & ALL_ROWS;
            }
        }
    }

    /** The input buffer. Whoever reads it sets its length to 0. */
    private static final class Input {
        static final int CAPACITY = 40;
        static final int MAX_BYTE = 127;

        private final int[] signs = new int[CAPACITY];
        int length;

        boolean add(int sign, int times) {
            if (times < 0 || times > CAPACITY - length) {
                return false;
            }
            int end = length + times;
            for (int k = length; k < end; k++) {
                signs[k] = sign;
            }
            length = end;
            return true;
        }

        int signAt(int position) {
            return position >= 0 && position < length ? signs[position] : 0;
        }

        boolean spells(String word) {
            if (word.length() != length) {
                return false;
            }
            for (int k = 0; k < length; k++) {
                if (word.charAt(k) != signs[k]) {
                    return false;
                }
            }
            return true;
        }
    }

    /**
     * Makes formulas from texts. Operators wait on a stack until one that binds less tightly, a
     * closing parenthesis or the end comes; so formulas are made in the order in which they end.
     */
    private static final class TextReader {
        // the kinds of formulas are ordered by how tightly their operators bind; this binds least
        private static final int PARENTHESIS = 5;

        private final Formulas formulas;
        private final int[] operators = new int[Input.CAPACITY];
        private final int[] operands = new int[Input.CAPACITY];
        private int operatorCount;
        private int operandCount;
        private boolean full;

        TextReader(Formulas formulas) {
            this.formulas = formulas;
        }

        /** The position of the first wrong byte, or -1 if the text is a formula. */
        int faultIn(Input text) {
            boolean wantsOperand = true;
            int depth = 0;
            for (int k = 0; k < text.length; k++) {
                int sign = text.signAt(k);
                if (wantsOperand) {
                    if (sign == '(') {
                        depth++;
                    } else if (isAtomSign(sign)) {
                        wantsOperand = false;
                    } else if (sign != '~') {
                        return k;
                    }
                } else if (sign == ')' && depth > 0) {
                    depth--;
                } else if (kindOfOperator(sign) >= Formulas.CONJUNCTION) {
                    wantsOperand = true;
                } else {
                    return k;
                }
            }
            return wantsOperand || depth > 0 ? text.length : -1;
        }

        /** Makes the formula of a text without a fault, or FULL and none. */
        int build(Input text) {
            int before = formulas.count;
            operatorCount = 0;
            operandCount = 0;
            full = false;
            for (int k = 0; k < text.length; k++) {
                take(text.signAt(k));
            }
            joinUpTo(Formulas.IMPLICATION);
            if (full || operandCount != 1) {
                formulas.shrinkTo(before);
                return FULL;
            }
            return operands[0];
        }

        private void take(int sign) {
            if (isAtomSign(sign)) {
                pushOperand(sign - 'p');
            } else if (sign == '(') {
                pushOperator(PARENTHESIS);
            } else if (sign == ')') {
                joinUpTo(Formulas.IMPLICATION);
                operatorCount = Math.max(0, operatorCount - 1);
            } else {
                int kind = kindOfOperator(sign);
                if (kind != Formulas.NEGATION) {
                    // an implication waits for the next one, because those group from the right
                    joinUpTo(Math.min(kind, Formulas.DISJUNCTION));
                }
                pushOperator(kind);
            }
        }

        private void joinUpTo(int loosest) {
            for (int left = operatorCount; left > 0; left--) {
                int kind = operators[left - 1];
                if (kind > loosest) {
                    return;
                }
                operatorCount = left - 1;
                join(kind);
            }
        }

        private void join(int kind) {
            int needed = kind == Formulas.NEGATION ? 1 : 2;
            if (operandCount < needed) {
                return;
            }
            operandCount -= needed;
            int second = needed == 1 ? Formulas.NO_PART : operands[operandCount + 1];
            int made = formulas.make(kind, operands[operandCount], second);
            if (made < 0) {
                full = true;
            }
            pushOperand(made);
        }

        private void pushOperator(int kind) {
            if (operatorCount < operators.length) {
                operators[operatorCount] = kind;
                operatorCount++;
            }
        }

        private void pushOperand(int formula) {
            if (operandCount < operands.length) {
                operands[operandCount] = formula;
                operandCount++;
            }
        }

        private static boolean isAtomSign(int sign) {
            return sign >= 'p' && sign <= 's';
        }

        private static int kindOfOperator(int sign) {
            switch (sign) {
                case '~':
                    return Formulas.NEGATION;
                case '&':
                    return Formulas.CONJUNCTION;
                case '|':
                    return Formulas.DISJUNCTION;
                case '>':
                    return Formulas.IMPLICATION;
                default:
                    return Formulas.ATOM;
            }
        }
    }

    /** Makes formulas from others by the words of the document. */
    private static final class Transformer {
        private static final int NO_WORD = 0;
        private static final int NEGATE = 1;
        private static final int DOUBLE = 2;
        private static final int COMMUTE = 3;
        private static final int CONTRAPOSE = 4;
        private static final int TRANSLATE = 5;

        private final Formulas formulas;
        private final int[] images = new int[Formulas.CAPACITY];

        Transformer(Formulas formulas) {
            this.formulas = formulas;
        }

        int wordIn(Input input) {
            if (input.spells("negate")) {
                return NEGATE;
            }
            if (input.spells("double")) {
                return DOUBLE;
            }
            if (input.spells("commute")) {
                return COMMUTE;
            }
            if (input.spells("contrapose")) {
                return CONTRAPOSE;
            }
            return input.spells("translate") ? TRANSLATE : NO_WORD;
        }

        boolean applies(int word, int formula) {
            int kind = formulas.kindOf(formula);
            if (word == COMMUTE) {
                return kind == Formulas.CONJUNCTION || kind == Formulas.DISJUNCTION;
            }
            if (word == CONTRAPOSE) {
                return kind == Formulas.IMPLICATION;
            }
            return word != NO_WORD;
        }

        /** The formula, or FULL; then some of those that it needs may have been made. */
        int makeBy(int word, int formula) {
            int first = formulas.firstOf(formula);
            int second = formulas.secondOf(formula);
            switch (word) {
                case NEGATE:
                    return formulas.negationOf(formula);
                case DOUBLE:
                    return formulas.negationOf(formulas.negationOf(formula));
                case COMMUTE:
                    return formulas.make(formulas.kindOf(formula), second, first);
                case CONTRAPOSE: {
                    int left = formulas.negationOf(second);
                    int right = formulas.negationOf(first);
                    return formulas.make(Formulas.IMPLICATION, left, right);
                }
                default:
                    Arrays.fill(images, Formulas.NO_PART);
                    return translate(formula, 0);
            }
        }

        /** Keeps every image, for a formula can occur in another one more often than could be walked. */
        private int translate(int formula, int depth) {
            if (!formulas.has(formula) || depth > Formulas.CAPACITY) {
                return FULL;
            }
            if (images[formula] < 0) {
                images[formula] = imageOf(formula, depth);
            }
            return images[formula];
        }

        private int imageOf(int formula, int depth) {
            int kind = formulas.kindOf(formula);
            if (kind == Formulas.ATOM) {
                return formulas.negationOf(formulas.negationOf(formula));
            }
            int left = translate(formulas.firstOf(formula), depth + 1);
            if (kind == Formulas.NEGATION) {
                return formulas.negationOf(left);
            }
            boolean disjoined = kind == Formulas.DISJUNCTION;
            if (disjoined) {
                left = formulas.negationOf(left);
            }
            if (left < 0) {
                return FULL;
            }
            int right = translate(formulas.secondOf(formula), depth + 1);
            if (!disjoined) {
                return formulas.make(kind, left, right);
            }
            right = formulas.negationOf(right);
            return formulas.negationOf(formulas.make(Formulas.CONJUNCTION, left, right));
        }
    }

    /** A position with its moves, and the rules by which replies lead to the next position. */
    private static final class Board {
        static final int CLAIM = 0;
        static final int ATTACK = 1;
        static final int ASK_LEFT = 2;
        static final int ASK_RIGHT = 3;

        // a claim of every formula, and two attacks on every formula
        private static final int MAX_MOVES = 3 * Formulas.CAPACITY;

        private final Formulas formulas;
        final int[] moveTypes = new int[MAX_MOVES];
        final int[] moveFormulas = new int[MAX_MOVES];
        int moveTotal;
        int manner;
        long claimed;
        long open;
        long nextClaimed;
        long nextOpen;

        Board(Formulas formulas) {
            this.formulas = formulas;
        }

        void setUp(long newClaimed, long newOpen) {
            claimed = newClaimed;
            open = newOpen;
            moveTotal = 0;
            long rest = newOpen;
            for (int k = 0; k < formulas.count && rest != 0L; k++) {
                if ((rest & 1L) != 0L && canClaim(k)) {
                    addMove(CLAIM, k);
                }
                rest >>>= 1;
            }
            rest = newClaimed >>> Formulas.ATOMS;
            for (int k = Formulas.ATOMS; k < formulas.count && rest != 0L; k++) {
                if ((rest & 1L) != 0L) {
                    addAttacks(k);
                }
                rest >>>= 1;
            }
        }

        private void addAttacks(int formula) {
            int kind = formulas.kindOf(formula);
            if (kind == Formulas.CONJUNCTION) {
                addMove(ASK_LEFT, formula);
                addMove(ASK_RIGHT, formula);
            } else if (kind == Formulas.DISJUNCTION || canClaim(formulas.firstOf(formula))) {
                addMove(ATTACK, formula);
            }
        }

        private void addMove(int type, int formula) {
            if (moveTotal < MAX_MOVES) {
                moveTypes[moveTotal] = type;
                moveFormulas[moveTotal] = formula;
                moveTotal++;
            }
        }

        private boolean canClaim(int formula) {
            return formula >= Formulas.ATOMS || (claimed & bitOf(formula)) != 0L;
        }

        boolean hasMove(int move) {
            return move >= 0 && move < moveTotal;
        }

        /** The number of replies, also 0 if there is no such move. */
        int repliesTo(int move) {
            if (!hasMove(move)) {
                return 0;
            }
            int formula = moveFormulas[move];
            if (moveTypes[move] == CLAIM) {
                return formulas.attacksOn(formula);
            }
            switch (formulas.kindOf(formula)) {
                case Formulas.NEGATION:
                    return formulas.attacksOn(formulas.firstOf(formula));
                case Formulas.CONJUNCTION:
                    return 1;
                case Formulas.DISJUNCTION:
                    return 2;
                default:
                    return formulas.attacksOn(formulas.firstOf(formula)) + 1;
            }
        }

        /** Finds the position after a move and one of its replies, and leaves the present one. */
        void answer(int move, int reply) {
            if (!hasMove(move)) {
                return;
            }
            int formula = moveFormulas[move];
            int type = moveTypes[move];
            int first = formulas.firstOf(formula);
            int second = formulas.secondOf(formula);
            if (type == CLAIM) {
                attack(formula, reply);
            } else if (type == ASK_LEFT) {
                concede(first);
            } else if (type == ASK_RIGHT) {
                concede(second);
            } else if (formulas.kindOf(formula) == Formulas.DISJUNCTION) {
                concede(reply == 0 ? first : second);
            } else if (reply < formulas.attacksOn(first)) {
                attack(first, reply);
            } else {
                concede(second);
            }
        }

        private void concede(int formula) {
            nextClaimed = claimed | bitOf(formula);
            nextOpen = open;
        }

        /** The opponent attacks a formula that the proponent has claimed. */
        void attack(int formula, int number) {
            long first = bitOf(formulas.firstOf(formula));
            long second = bitOf(formulas.secondOf(formula));
            long claim = 0L;
            long defence = 0L;
            switch (formulas.kindOf(formula)) {
                case Formulas.NEGATION:
                    claim = first;
                    break;
                case Formulas.CONJUNCTION:
                    defence = number == 0 ? first : second;
                    break;
                case Formulas.DISJUNCTION:
                    defence = first | second;
                    break;
                case Formulas.IMPLICATION:
                    claim = first;
                    defence = second;
                    break;
                default:
                    break;
            }
            nextClaimed = claimed | claim;
            nextOpen = manner == CLASSICAL ? open | defence : defence;
        }

        private static long bitOf(int formula) {
            return formula >= 0 ? 1L << formula : 0L;
        }
    }

    /** The dialogue that is being played, with the positions before each of its moves. */
    private static final class Dialogue {
        private static final int MAX_PLAYED = 20;

        final Board board;
        private final long[] pastClaimed = new long[MAX_PLAYED];
        private final long[] pastOpen = new long[MAX_PLAYED];
        int played;
        private boolean begun;
        private boolean won;

        Dialogue(Formulas formulas) {
            board = new Board(formulas);
        }

        boolean isOn() {
            return begun && !won;
        }

        void drop() {
            begun = false;
            won = false;
            played = 0;
        }

        void open(int formula, int manner, int attack) {
            drop();
            begun = true;
            board.manner = manner;
            board.claimed = 0L;
            board.open = 0L;
            board.attack(formula, attack);
            board.setUp(board.nextClaimed, board.nextOpen);
        }

        int advance(int move, int reply) {
            if (!isOn()) {
                return NOT_PLAYING;
            }
            if (!board.hasMove(move)) {
                return NONE;
            }
            int replies = board.repliesTo(move);
            if (replies > 0 && (reply < 0 || reply >= replies)) {
                return BAD_ARGUMENT;
            }
            if (played >= MAX_PLAYED) {
                return FULL;
            }
            pastClaimed[played] = board.claimed;
            pastOpen[played] = board.open;
            played++;
            if (replies == 0) {
                won = true;
                return WON;
            }
            board.answer(move, reply);
            board.setUp(board.nextClaimed, board.nextOpen);
            return board.moveTotal;
        }

        boolean stepBack() {
            if (played <= 0 || played > MAX_PLAYED) {
                return false;
            }
            played--;
            won = false;
            board.setUp(pastClaimed[played], pastOpen[played]);
            return true;
        }
    }

    /** The descendants of some positions, and their ranks. */
    private static final class Search {
        private static final int LIMIT = 300;
        private static final int PLACES = 1024;
        private static final int FIRST_ROOM = 2048;

        private final Formulas formulas;
        private final Board board;
        private final long[] claims = new long[LIMIT];
        private final long[] opens = new long[LIMIT];
        private final int[] ranks = new int[LIMIT];
        // a hash table of the positions' numbers, each plus 1
        private final int[] places = new int[PLACES];
        // for each position's moves, the number of replies and the positions they lead to
        private int[] links = new int[FIRST_ROOM];
        private final int[] linkStarts = new int[LIMIT + 1];
        private int linkCount;
        private int starts;
        int total;
        private boolean exceeded;

        Search(Formulas formulas) {
            this.formulas = formulas;
            board = new Board(formulas);
        }

        void startFromFormula(int formula, int manner) {
            clear(manner);
            board.claimed = 0L;
            board.open = 0L;
            int attacks = formulas.attacksOn(formula);
            for (int k = 0; k < attacks; k++) {
                board.attack(formula, k);
                numberOf(board.nextClaimed, board.nextOpen);
            }
            starts = total;
        }

        void startFromPosition(long claimed, long open, int manner) {
            clear(manner);
            numberOf(claimed, open);
            starts = total;
        }

        private void clear(int manner) {
            Arrays.fill(places, 0);
            board.manner = manner;
            total = 0;
            linkCount = 0;
            exceeded = false;
        }

        /** Finds all descendants of the starts; false if there are too many. */
        boolean explore() {
            for (int k = 0; k < LIMIT && k < total && !exceeded; k++) {
                board.setUp(claims[k], opens[k]);
                linkStarts[k] = linkCount;
                for (int move = 0; move < board.moveTotal && !exceeded; move++) {
                    linkMove(k, move);
                }
                linkStarts[k + 1] = linkCount;
            }
            return !exceeded;
        }

        private void linkMove(int position, int move) {
            int before = linkCount;
            boolean returns = false;
            int replies = board.repliesTo(move);
            addLink(replies);
            for (int reply = 0; reply < replies && !exceeded; reply++) {
                board.answer(move, reply);
                int next = numberOf(board.nextClaimed, board.nextOpen);
                addLink(next);
                returns = returns || next == position;
            }
            if (returns) {
                // a position does not help itself, so such a move gives no rank
                linkCount = before;
            }
        }

        private void addLink(int value) {
            if (linkCount >= links.length) {
                links = Arrays.copyOf(links, 2 * linkCount);
            }
            links[linkCount] = value;
            linkCount++;
        }

        /** The number of a position, which is new if it was not met before. */
        private int numberOf(long claimed, long open) {
            int place = placeOf(claimed, open);
            if (places[place] == 0) {
                if (total >= LIMIT) {
                    exceeded = true;
                    return 0;
                }
                claims[total] = claimed;
                opens[total] = open;
                ranks[total] = 0;
                total++;
                places[place] = total;
            }
            return places[place] - 1;
        }

        private int placeOf(long claimed, long open) {
            long mixed = claimed * 0x9E3779B97F4A7C15L + open * 0xC2B2AE3D27D4EB4FL;
            int place = (int) (mixed >>> 44) & (PLACES - 1);
            for (int tries = 0; tries < PLACES; tries++) {
                int number = places[place] - 1;
                if (number < 0 || (claims[number] == claimed && opens[number] == open)) {
                    break;
                }
                place = (place + 1) & (PLACES - 1);
            }
            return place;
        }

        /** Gives the ranks in ascending order; where none gets a rank, none can get a higher one. */
        void settleRanks() {
            boolean found = true;
            for (int level = 1; level <= total && found; level++) {
                found = false;
                for (int k = total - 1; k >= 0; k--) {
                    if (ranks[k] == 0 && winsWithin(k, level)) {
                        ranks[k] = level;
                        found = true;
                    }
                }
            }
        }

        private boolean winsWithin(int position, int level) {
            int end = Math.min(linkStarts[position + 1], links.length);
            int last = 0;
            for (int at = linkStarts[position]; at < end; at = last + 1) {
                last = Math.min(end - 1, at + Math.max(0, links[at]));
                if (areBelow(at + 1, last, level)) {
                    return true;
                }
            }
            return false;
        }

        private boolean areBelow(int from, int last, int level) {
            for (int k = from; k <= last && k < links.length; k++) {
                int next = links[k];
                if (next < 0 || next >= total || ranks[next] == 0 || ranks[next] >= level) {
                    return false;
                }
            }
            return true;
        }

        /** The highest rank of the starts, 0 if one has none or there is no start. */
        int highestStartRank() {
            int highest = 0;
            for (int k = 0; k < starts; k++) {
                if (ranks[k] == 0) {
                    return 0;
                }
                highest = Math.max(highest, ranks[k]);
            }
            return highest;
        }

        /** The rank of a descendant, 0 if it has none. */
        int rankOf(long claimed, long open) {
            int number = places[placeOf(claimed, open)] - 1;
            return number < 0 ? 0 : ranks[number];
        }
    }

    /**
     * An array slot. Its rows are made once and used for every array that it holds. Floats are kept
     * in the row of doubles, which has every float; what is no finite number is kept as a mark, so
     * that no arithmetic is done with it.
     */
    private static final class Slot {
        static final int CAPACITY = 40;
        static final int BYTES = 0;
        static final int LONGS = 1;
        static final int FLOATS = 2;
        static final int DOUBLES = 3;

        private static final int NO_TYPE = -1;

        private static final int FINITE = 0;
        private static final int INFINITE = 1;
        private static final int MINUS_INFINITE = 2;
        private static final int NO_NUMBER = 3;

        private final long[] wholes = new long[CAPACITY];
        private final double[] reals = new double[CAPACITY];
        private final int[] marks = new int[CAPACITY];
        int type = NO_TYPE;
        int length;

        boolean isEmpty() {
            return type == NO_TYPE;
        }

        boolean holdsReals() {
            return type == FLOATS || type == DOUBLES;
        }

        /** Whether there are that many elements from an index on. */
        boolean covers(int index, int count) {
            return index >= 0 && count >= 0 && index <= length && count <= length - index;
        }

        void fillAnew(int newType, int newLength) {
            Arrays.fill(wholes, 0L);
            Arrays.fill(reals, 0.0);
            Arrays.fill(marks, FINITE);
            type = newType;
            length = newLength;
        }

        boolean drop() {
            boolean held = !isEmpty();
            type = NO_TYPE;
            length = 0;
            return held;
        }

        void write(int index, long value) {
            if (!covers(index, 1)) {
                return;
            }
            marks[index] = FINITE;
            switch (type) {
                case BYTES:
                    wholes[index] = (byte) value;
                    break;
                case LONGS:
                    wholes[index] = value;
                    break;
                case FLOATS:
                    reals[index] = (double) (float) value;
                    break;
                default:
                    reals[index] = (double) value;
                    break;
            }
        }

        long read(int index) {
            if (!covers(index, 1)) {
                return 0L;
            }
            if (!holdsReals()) {
                return wholes[index];
            }
            switch (marks[index]) {
                case INFINITE:
                    return Long.MAX_VALUE;
                case MINUS_INFINITE:
                    return Long.MIN_VALUE;
                case NO_NUMBER:
                    return 0L;
                default:
                    return (long) reals[index];
            }
        }

        void divide(int index, int operand) {
            if (!covers(index, 1) || marks[index] == NO_NUMBER) {
                return;
            }
            double value = reals[index];
            if (marks[index] != FINITE) {
                if (operand < 0) {
                    marks[index] = marks[index] == INFINITE ? MINUS_INFINITE : INFINITE;
                }
            } else if (operand == 0) {
                marks[index] = value > 0.0 ? INFINITE : value < 0.0 ? MINUS_INFINITE : NO_NUMBER;
            } else if (type == FLOATS) {
                reals[index] = (double) ((float) value / (float) operand);
            } else {
                reals[index] = value / (double) operand;
            }
        }

        void keepRemainder(int index, int operand) {
            if (!covers(index, 1)) {
                return;
            }
            if (marks[index] != FINITE || operand == 0) {
                marks[index] = NO_NUMBER;
                return;
            }
            long divisor = type == FLOATS ? (long) (float) operand : (long) operand;
            reals[index] = remainderOf(reals[index], divisor);
        }

        /**
         * The exact remainder, which for a whole divisor leaves the fraction as it is. Below zero the
         * whole part of every element fits a long; above zero that of 2 to the 63 does not.
         */
        private static double remainderOf(double value, long divisor) {
            if (divisor == 0L) {
                return value;
            }
            double below = value < 0.0 ? value : -value;
            long whole = (long) below;
            double rest = (double) (whole % divisor) + (below - (double) whole);
            return value < 0.0 ? rest : -rest;
        }

        void copyTo(int index, Slot target, int targetIndex, int count) {
            if (!covers(index, count) || !target.covers(targetIndex, count)) {
                return;
            }
            System.arraycopy(wholes, index, target.wholes, targetIndex, count);
            System.arraycopy(reals, index, target.reals, targetIndex, count);
            System.arraycopy(marks, index, target.marks, targetIndex, count);
        }
    }
}
