/** The boundary cases that the document names for the array slots: promises 29 to 34. */
public final class ArrayBoundaryTest {
    private static final int LOW = Bench.LOW;
    private static final int HIGH = Bench.HIGH;
    private static final long NO_VALUE = Bench.NO_VALUE;
    private static final int[] NO_SLOTS = {LOW, -1, 4, 5, 256, 65536, HIGH};
    private static final int BYTES = 0;
    private static final int LONGS = 1;
    private static final int FLOATS = 2;
    private static final int DOUBLES = 3;

    public static void main(String[] args) {
        slotsAreEmptyAtFirst();
        allocateSizes();
        allocateChecks();
        allocateFillsWithZero();
        releaseBounds();
        putElementChecks();
        putBytes();
        putLongs();
        putFloats();
        putDoubles();
        elementRefusals();
        elementCasts();
        computeChecks();
        divideByZero();
        divideToNothing();
        operandIsConverted();
        remainderBounds();
        copyChecks();
        copyRanges();
        copyNothing();
        copyWithinOne();
        copyAllTypes();
        Bench.finish();
    }

    private static DialogueGames with(int type, long... values) {
        DialogueGames x = new DialogueGames();
        Bench.store(x, 0, type, values);
        return x;
    }

    private static void slotsAreEmptyAtFirst() {
        Bench.says("There are four array slots, numbered 0 to 3. All slots are initially empty.");
        DialogueGames x = new DialogueGames();
        for (int slot = 0; slot < 4; slot++) {
            Bench.due("release", x.release(slot), 0);
            Bench.due("element", x.element(slot, 0), NO_VALUE);
            Bench.due("putElement", x.putElement(slot, 0, 0), -11);
            Bench.due("compute", x.compute(slot, 0, 0, 1), -11);
            Bench.due("copyElements", x.copyElements(slot, 0, slot, 0, 0), -11);
        }
        for (int slot = 0; slot < 4; slot++) Bench.due("each takes an array", x.allocate(slot, 3 - slot, 10 + slot), 10 + slot);
        for (int slot = 0; slot < 4; slot++) Bench.due("its own", Bench.sizeOf(x, slot), 10 + slot);
    }

    private static void allocateSizes() {
        Bench.says("A slot is empty, or holds an array with at most 40 elements.");
        for (int type = 0; type < 4; type++) {
            for (int size = 0; size <= 40; size++) {
                DialogueGames x = new DialogueGames();
                Bench.due("size " + size, x.allocate(3, type, size), size);
                Bench.due("held", Bench.sizeOf(x, 3), size);
                if (size > 0) Bench.due("the last element is there", x.putElement(3, size - 1, 5), 1);
                Bench.due("the next one is not", x.putElement(3, size, 5), -13);
                Bench.due("an array of " + size + " is an array", x.release(3), 1);
            }
        }
        int[] tooLarge = {41, 42, 256, 296, 65536, HIGH};
        for (int size : tooLarge) {
            Bench.refused("size " + size, Bench::busy, x -> x.allocate(0, 0, size), -1);
            Bench.refused("size " + size + " in an empty slot", DialogueGames::new, x -> x.allocate(0, 0, size), -1);
        }
        int[] negative = {-1, -2, -40, -216, LOW, LOW + 1};
        for (int size : negative) {
            Bench.refused("size " + size, Bench::busy, x -> x.allocate(0, 0, size), -14);
            Bench.refused("size " + size + " in an empty slot", DialogueGames::new, x -> x.allocate(0, 0, size), -14);
        }
    }

    private static void allocateChecks() {
        Bench.says("Promise 29: BAD_ARGUMENT if the slot or the type is out of range or the size is above 40 (checked first); NEGATIVE_SIZE.");
        for (int slot : NO_SLOTS) {
            Bench.refused("slot " + slot, Bench::busy, x -> x.allocate(slot, 0, 1), -1);
            Bench.refused("slot " + slot + " before a negative size", Bench::busy, x -> x.allocate(slot, 0, -1), -1);
        }
        int[] types = {LOW, -1, 4, 5, 256, HIGH};
        for (int type : types) {
            Bench.refused("type " + type, Bench::busy, x -> x.allocate(0, type, 1), -1);
            Bench.refused("type " + type + " before a negative size", Bench::busy, x -> x.allocate(0, type, -1), -1);
        }
    }

    private static void allocateFillsWithZero() {
        Bench.says("Promise 29: stores a new array, filled with 0, in an array slot.");
        for (int before = 0; before < 4; before++) {
            for (int after = 0; after < 4; after++) {
                DialogueGames x = new DialogueGames();
                x.allocate(1, before, 40);
                x.putElement(1, 0, 77);
                x.putElement(1, 39, -77);
                x.compute(1, 0, 0, 0);
                x.compute(1, 39, 1, 0);
                x.allocate(1, after, 40);
                for (int k = 0; k < 40; k++) Bench.due("element " + k, x.element(1, k), 0);
                if (after < FLOATS) continue;
                Bench.due("no infinity is left", x.compute(1, 0, 0, 3), 1);
                Bench.due("it is 0", x.element(1, 0), 0);
                x.compute(1, 0, 0, -3);
                Bench.due("it is 0 all the same", x.element(1, 0), 0);
            }
        }
        DialogueGames x = with(LONGS, 1, 2, 3);
        x.allocate(0, LONGS, 1);
        x.allocate(0, LONGS, 3);
        Bench.due("nothing of the first array", x.element(0, 2), 0);
        Bench.due("the same size and type again", x.allocate(0, LONGS, 3), 3);
        x = Bench.busy();
        x.allocate(1, 1, 0);
        Bench.due("the other slots stay", x.element(0, 2), 7);
        Bench.due("the other slots stay", x.element(2, 4), 50);
    }

    private static void releaseBounds() {
        Bench.says("Promise 30: 1 if it held an array, 0 if it was empty; BAD_ARGUMENT if the slot is out of range.");
        for (int slot : NO_SLOTS) Bench.refused("slot " + slot, Bench::busy, x -> x.release(slot), -1);
        for (int slot = 0; slot < 4; slot++) {
            int number = slot;
            Bench.refused("empty slot " + slot, DialogueGames::new, x -> x.release(number), 0);
            DialogueGames x = Bench.busy();
            Bench.due("slot " + slot, x.release(slot), 1);
            Bench.due("then empty", x.release(slot), 0);
            Bench.due("its elements are gone", x.element(slot, 0), NO_VALUE);
            for (int other = 0; other < 4; other++) if (other != slot) Bench.due("the others stay", x.release(other), 1);
            x.allocate(slot, 0, 0);
            Bench.due("an array of no elements", x.release(slot), 1);
        }
        DialogueGames x = with(DOUBLES, 5, 6);
        x.release(0);
        x.allocate(0, DOUBLES, 2);
        Bench.due("nothing comes back", x.element(0, 1), 0);
    }

    private static void putElementChecks() {
        Bench.says("Promise 31: BAD_ARGUMENT if the slot is out of range (checked first); EMPTY_SLOT (checked second); INDEX_OUT_OF_RANGE.");
        for (int slot : NO_SLOTS) {
            Bench.refused("slot " + slot, Bench::busy, x -> x.putElement(slot, 0, 1), -1);
            Bench.refused("slot " + slot + " before the index", Bench::busy, x -> x.putElement(slot, -1, 1), -1);
        }
        int[] sizes = {3, 4, 5, 6};
        for (int slot = 0; slot < 4; slot++) {
            int number = slot;
            int[] beside = {LOW, -1, sizes[slot], sizes[slot] + 1, 39, 40, 256, HIGH};
            for (int index : beside) {
                Bench.refused("empty slot " + slot, Bench::over, x -> x.putElement(number, index, 1), -11);
                Bench.refused("index " + index + " of slot " + slot, Bench::busy, x -> x.putElement(number, index, 1), -13);
            }
            Bench.due("the first", Bench.busy().putElement(slot, 0, 1), 1);
            Bench.due("the last", Bench.busy().putElement(slot, sizes[slot] - 1, 1), 1);
            Bench.due("the 40th", Bench.crowded().putElement(slot, 39, 1), 1);
            Bench.refused("the 41st", Bench::crowded, x -> x.putElement(number, 40, 1), -13);
            DialogueGames x = new DialogueGames();
            x.allocate(slot, slot, 0);
            Bench.due("an array of no elements", x.putElement(slot, 0, 1), -13);
        }
    }

    /** Each value as it is put, and what the array then holds; its neighbours stay. */
    private static void puts(int type, long[][] pairs) {
        for (long[] pair : pairs) {
            DialogueGames x = with(type, 1, 2, 3);
            Bench.due("put " + pair[0], x.putElement(0, 1, pair[0]), 1);
            Bench.due("type " + type + " holds " + pair[0], x.element(0, 1), pair[1]);
            Bench.due("the one before stays", x.element(0, 0), 1);
            Bench.due("the one after stays", x.element(0, 2), 3);
        }
    }

    private static void putBytes() {
        Bench.says("Promise 31: the value is converted to the element type as by a Java cast (byte).");
        long[] values = {0, 1, -1, 127, 128, 129, -128, -129, -130, 255, 256, 257, -255, -256, -257, 1L << 31, (1L << 32) + 5,
            (1L << 63) - 1, Long.MIN_VALUE, Long.MIN_VALUE + 127, Long.MIN_VALUE + 128};
        for (long value : values) puts(BYTES, new long[][] {{value, (byte) value}});
        puts(BYTES, new long[][] {{127, 127}, {128, -128}, {-128, -128}, {-129, 127}, {255, -1}, {256, 0}});
    }

    private static void putLongs() {
        Bench.says("Promise 31: the value is converted to the element type as by a Java cast (long).");
        long[] values = {0, -1, 1L << 31, 1L << 32, (1L << 53) + 1, Long.MAX_VALUE, Long.MAX_VALUE - 1, Long.MIN_VALUE, Long.MIN_VALUE + 1};
        for (long value : values) puts(LONGS, new long[][] {{value, value}});
    }

    private static void putFloats() {
        Bench.says("Promise 31: the value is converted to the element type as by a Java cast (float).");
        long[] values = {0, -1, (1L << 24) - 1, 1L << 24, (1L << 24) + 1, (1L << 24) + 2, (1L << 24) + 3, -(1L << 24) - 1, Integer.MAX_VALUE, Integer.MIN_VALUE,
            (1L << 55) + (1L << 31) + 1, (1L << 62) + 1, Long.MAX_VALUE, Long.MAX_VALUE - (1L << 38), Long.MAX_VALUE - (1L << 39), Long.MIN_VALUE, Long.MIN_VALUE + 1};
        for (long value : values) puts(FLOATS, new long[][] {{value, (long) (float) value}});
        puts(FLOATS, new long[][] {{16777217, 16777216}, {16777219, 16777220}, {Long.MAX_VALUE, Long.MAX_VALUE}, {Long.MIN_VALUE, Long.MIN_VALUE}});
    }

    private static void putDoubles() {
        Bench.says("Promise 31: the value is converted to the element type as by a Java cast (double).");
        long[] values = {0, -1, (1L << 53) - 1, 1L << 53, (1L << 53) + 1, (1L << 53) + 2, (1L << 53) + 3, -(1L << 53) - 1,
            Long.MAX_VALUE, Long.MAX_VALUE - 511, Long.MAX_VALUE - 512, Long.MAX_VALUE - 1023, Long.MIN_VALUE, Long.MIN_VALUE + 1};
        for (long value : values) puts(DOUBLES, new long[][] {{value, (long) (double) value}});
        puts(DOUBLES, new long[][] {{9007199254740993L, 9007199254740992L}, {9007199254740995L, 9007199254740996L}, {Long.MAX_VALUE, Long.MAX_VALUE}});
        DialogueGames x = with(DOUBLES, 0);
        x.compute(0, 0, 0, 0);
        x.putElement(0, 0, 9);
        Bench.due("a number instead of NaN", x.element(0, 0), 9);
        x.compute(0, 0, 0, 0);
        x.putElement(0, 0, -9);
        x.compute(0, 0, 0, 2);
        Bench.due("a number instead of an infinity", x.element(0, 0), -4);
    }

    private static void elementRefusals() {
        Bench.says("Promise 32: NO_VALUE if the slot is out of range or empty, or the index is out of range.");
        for (int slot : NO_SLOTS) {
            Bench.refused("slot " + slot, Bench::busy, x -> x.element(slot, 0), NO_VALUE);
            Bench.refused("slot " + slot + " and the index", Bench::busy, x -> x.element(slot, -1), NO_VALUE);
        }
        int[] sizes = {3, 4, 5, 6};
        for (int slot = 0; slot < 4; slot++) {
            int number = slot;
            int[] beside = {LOW, -1, sizes[slot], 39, 40, 256, HIGH};
            for (int index : beside) {
                Bench.refused("index " + index + " of slot " + slot, Bench::busy, x -> x.element(number, index), NO_VALUE);
                Bench.refused("index " + index + " of empty slot " + slot, Bench::over, x -> x.element(number, index), NO_VALUE);
            }
            Bench.due("the 40th", Bench.crowded().element(slot, 39), 21 + slot);
            Bench.refused("the 41st", Bench::crowded, x -> x.element(number, 40), NO_VALUE);
            DialogueGames x = new DialogueGames();
            x.allocate(slot, slot, 0);
            Bench.due("an array of no elements", x.element(slot, 0), NO_VALUE);
        }
        Bench.due("a long may have that value", with(LONGS, NO_VALUE).element(0, 0), NO_VALUE);
    }

    /** An element divided by an operand, read as a long. */
    private static long divided(int type, long value, int... operands) {
        DialogueGames x = with(type, value);
        for (int operand : operands) x.compute(0, 0, 0, operand);
        return x.element(0, 0);
    }

    /** The remainder of an element, read as a long. */
    private static long remainder(int type, long value, int... operands) {
        DialogueGames x = with(type, value);
        for (int operand : operands) x.compute(0, 0, 1, operand);
        return x.element(0, 0);
    }

    private static void elementCasts() {
        Bench.says("Promise 32: the fractional part is dropped, NaN gives 0, and values beyond the range of long give its bounds.");
        for (int type = FLOATS; type <= DOUBLES; type++) {
            Bench.due("3.5", divided(type, 7, 2), 3);
            Bench.due("-3.5", divided(type, -7, 2), -3);
            Bench.due("0.5", divided(type, 1, 2), 0);
            Bench.due("-0.5", divided(type, -1, 2), 0);
            Bench.due("NaN", divided(type, 0, 0), 0);
            Bench.due("infinity", divided(type, 1, 0), Long.MAX_VALUE);
            Bench.due("minus infinity", divided(type, -1, 0), Long.MIN_VALUE);
            Bench.due("2 to the 63", divided(type, Long.MIN_VALUE, -1), Long.MAX_VALUE);
            Bench.due("minus 2 to the 63", divided(type, Long.MIN_VALUE, 1), Long.MIN_VALUE);
            Bench.due("minus 2 to the 63 from above", divided(type, Long.MAX_VALUE, -1), Long.MIN_VALUE);
            Bench.due("2 to the 62", divided(type, Long.MIN_VALUE, -2), 1L << 62);
        }
    }

    private static void computeChecks() {
        Bench.says("Promise 33: BAD_ARGUMENT if the slot or the operation is out of range (checked first).");
        int[] operations = {LOW, -1, 2, 3, 256, HIGH};
        for (int slot : NO_SLOTS) {
            Bench.refused("slot " + slot, Bench::busy, x -> x.compute(slot, 0, 0, 1), -1);
            Bench.refused("slot " + slot + " before the index", Bench::busy, x -> x.compute(slot, -1, 1, 0), -1);
        }
        for (int operation : operations) {
            Bench.refused("operation " + operation, Bench::busy, x -> x.compute(3, 0, operation, 1), -1);
            Bench.refused("operation " + operation + " before an empty slot", Bench::over, x -> x.compute(3, 0, operation, 1), -1);
            Bench.refused("operation " + operation + " before the type", Bench::busy, x -> x.compute(0, 0, operation, 1), -1);
            Bench.refused("operation " + operation + " before the index", Bench::busy, x -> x.compute(3, 6, operation, 1), -1);
        }
        Bench.says("Promise 33: EMPTY_SLOT (checked second); WRONG_TYPE if the array holds bytes or longs (checked third); INDEX_OUT_OF_RANGE.");
        for (int operation = 0; operation < 2; operation++) {
            int chosen = operation;
            for (int slot = 0; slot < 4; slot++) {
                int number = slot;
                int[] indexes = {LOW, -1, 0, 6, 40, HIGH};
                for (int index : indexes) {
                    Bench.refused("empty slot " + slot, Bench::over, x -> x.compute(number, index, chosen, 0), -11);
                    if (slot < FLOATS) Bench.refused("type " + slot, Bench::busy, x -> x.compute(number, index, chosen, 0), -12);
                    else if (index != 0) Bench.refused("index " + index, Bench::busy, x -> x.compute(number, index, chosen, 0), -13);
                }
                if (slot < FLOATS) continue;
                Bench.refused("the first index beyond slot " + slot, Bench::busy, x -> x.compute(number, 3 + number, chosen, 1), -13);
                Bench.due("the last index of slot " + slot, Bench.busy().compute(slot, 2 + slot, operation, 1), 1);
                Bench.due("the 40th", Bench.crowded().compute(slot, 39, operation, 1), 1);
                Bench.refused("the 41st", Bench::crowded, x -> x.compute(number, 40, chosen, 1), -13);
                DialogueGames x = new DialogueGames();
                x.allocate(slot, slot, 0);
                Bench.due("an array of no elements", x.compute(slot, 0, operation, 1), -13);
            }
        }
        DialogueGames x = with(BYTES);
        Bench.due("no bytes", x.compute(0, 0, 0, 1), -12);
    }

    private static void divideByZero() {
        Bench.says("Promise 33: the operand may be 0.");
        for (int type = FLOATS; type <= DOUBLES; type++) {
            long[] values = {Long.MIN_VALUE, -1, 0, 1, Long.MAX_VALUE};
            for (long value : values) {
                DialogueGames x = with(type, 4, value, 4);
                Bench.due(value + " / 0 is done", x.compute(0, 1, 0, 0), 1);
                Bench.due(value + " / 0", x.element(0, 1), (long) ((double) value / 0));
                Bench.due("the one before stays", x.element(0, 0), 4);
                Bench.due("the one after stays", x.element(0, 2), 4);
                x = with(type, 4, value, 4);
                Bench.due(value + " % 0 is done", x.compute(0, 1, 1, 0), 1);
                Bench.due(value + " % 0 is NaN", x.element(0, 1), 0);
                x.compute(0, 1, 0, 0);
                Bench.due("and stays NaN", x.element(0, 1), 0);
            }
            Bench.due("infinity / 0", divided(type, 3, 0, 0), Long.MAX_VALUE);
            Bench.due("infinity / -1", divided(type, 3, 0, -1), Long.MIN_VALUE);
            Bench.due("infinity / -1 / 0", divided(type, 3, 0, -1, 0), Long.MIN_VALUE);
            Bench.due("infinity / HIGH", divided(type, 3, 0, HIGH), Long.MAX_VALUE);
            Bench.due("infinity / LOW / LOW", divided(type, 3, 0, LOW, LOW), Long.MAX_VALUE);
            Bench.due("NaN / -1 / 0", divided(type, 0, 0, -1, 0), 0);
            DialogueGames x = with(type, 3);
            x.compute(0, 0, 0, 0);
            x.compute(0, 0, 1, 5);
            Bench.due("infinity % 5 is NaN", x.element(0, 0), 0);
            x.compute(0, 0, 0, 0);
            Bench.due("and stays NaN", x.element(0, 0), 0);
            Bench.due("0 / -5 / 0 is NaN", divided(type, 0, -5, 0), 0);
        }
    }

    private static void divideToNothing() {
        Bench.says("Promise 33: in the arithmetic of its type (the smallest numbers).");
        for (int type = FLOATS; type <= DOUBLES; type++) {
            for (int times = 0; times <= 36; times++) {
                DialogueGames x = with(type, -1);
                float f = -1;
                double d = -1;
                for (int k = 0; k < times; k++) {
                    x.compute(0, 0, 0, HIGH);
                    f /= HIGH;
                    d /= HIGH;
                }
                x.compute(0, 0, 0, 0);
                Bench.due("type " + type + ", divided " + times + " times", x.element(0, 0), type == FLOATS ? (long) (f / 0) : (long) (d / 0));
            }
        }
        Bench.due("0.1 as a float, ten times less, and so on", divided(FLOATS, 1L << 62, 3, 7, 11), (long) ((float) (1L << 62) / 3f / 7f / 11f));
        Bench.due("the same as a double", divided(DOUBLES, 1L << 62, 3, 7, 11), (long) ((double) (1L << 62) / 3 / 7 / 11));
    }

    private static void operandIsConverted() {
        Bench.says("Promise 33: the operand is converted to the element type.");
        Bench.due("HIGH is 2 to the 31 as a float", divided(FLOATS, 1L << 62, HIGH), 1L << 31);
        Bench.due("HIGH is itself as a double", divided(DOUBLES, 1L << 62, HIGH), (long) ((double) (1L << 62) / HIGH));
        Bench.due("2 to the 31 % HIGH as floats", remainder(FLOATS, 1L << 31, HIGH), 0);
        Bench.due("2 to the 31 % HIGH as doubles", remainder(DOUBLES, 1L << 31, HIGH), 1);
        Bench.due("2 to the 31 % LOW", remainder(DOUBLES, 1L << 31, LOW), 0);
        Bench.due("2 to the 31 + 1 % LOW", remainder(DOUBLES, (1L << 31) + 1, LOW), 1);
        Bench.due("16777217 is 16777216 as a float", remainder(FLOATS, 1L << 25, 16777217), 0);
        Bench.due("16777217 is itself as a double", remainder(DOUBLES, 1L << 25, 16777217), 16777215);
        Bench.due("16777219 is 16777220 as a float", divided(FLOATS, 16777220L * 64, 16777219), 64);
    }

    private static void remainderBounds() {
        Bench.says("Promise 33: the remainder, as by the operator % of Java.");
        long[] values = {0, 1, -1, 2, -2, 5, -5, 6, -6, 7, -7, Long.MAX_VALUE, Long.MIN_VALUE, (1L << 53) + 1, 1L << 24};
        int[] operands = {1, -1, 2, -2, 5, -5, 6, -6, 7, HIGH, LOW, HIGH - 1, LOW + 1};
        for (long value : values) {
            for (int operand : operands) {
                Bench.due(value + " % " + operand + " as floats", remainder(FLOATS, value, operand), (long) ((float) value % (float) operand));
                Bench.due(value + " % " + operand + " as doubles", remainder(DOUBLES, value, operand), (long) ((double) value % operand));
            }
        }
        for (int type = FLOATS; type <= DOUBLES; type++) {
            DialogueGames x = with(type, -7);
            x.compute(0, 0, 0, 2);
            x.compute(0, 0, 1, -2);
            x.compute(0, 0, 0, 0);
            Bench.due("-3.5 % -2 is -1.5, below 0", x.element(0, 0), Long.MIN_VALUE);
            x = with(type, 7);
            x.compute(0, 0, 0, 2);
            x.compute(0, 0, 1, 1);
            Bench.due("3.5 % 1 is 0.5", x.element(0, 0), 0);
            x.compute(0, 0, 0, 0);
            Bench.due("which is above 0", x.element(0, 0), Long.MAX_VALUE);
            x = with(type, 6);
            x.compute(0, 0, 1, 3);
            x.compute(0, 0, 0, 0);
            Bench.due("6 % 3 is 0", x.element(0, 0), 0);
        }
    }

    private static void copyChecks() {
        Bench.says("Promise 34: BAD_ARGUMENT if a slot is out of range (checked first); EMPTY_SLOT if either slot is empty (checked second).");
        for (int slot : NO_SLOTS) {
            Bench.refused("source " + slot, Bench::busy, x -> x.copyElements(slot, 0, 0, 0, 1), -1);
            Bench.refused("target " + slot, Bench::busy, x -> x.copyElements(0, 0, slot, 0, 1), -1);
            Bench.refused("both " + slot, Bench::busy, x -> x.copyElements(slot, -1, slot, -1, -1), -1);
            Bench.refused("source " + slot + " before an empty target", Bench::over, x -> x.copyElements(slot, 0, 0, 0, 1), -1);
            Bench.refused("target " + slot + " before an empty source", Bench::over, x -> x.copyElements(0, 0, slot, 0, 1), -1);
        }
        Bench.Maker oneEmpty = () -> {
            DialogueGames x = Bench.busy();
            x.release(1);
            return x;
        };
        Bench.refused("an empty source", oneEmpty, x -> x.copyElements(1, 0, 0, 0, 0), -11);
        Bench.refused("an empty target", oneEmpty, x -> x.copyElements(0, 0, 1, 0, 0), -11);
        Bench.refused("the same empty slot", oneEmpty, x -> x.copyElements(1, 0, 1, 0, 0), -11);
        Bench.refused("empty before the indexes", oneEmpty, x -> x.copyElements(0, -1, 1, 99, -1), -11);
        Bench.says("Promise 34: WRONG_TYPE if the element types differ (checked third).");
        for (int source = 0; source < 4; source++) {
            for (int target = 0; target < 4; target++) {
                if (source == target) continue;
                int from = source;
                int to = target;
                Bench.refused("type " + from + " to " + to, Bench::busy, x -> x.copyElements(from, 0, to, 0, 1), -12);
                Bench.refused("no element from type " + from + " to " + to, Bench::busy, x -> x.copyElements(from, 0, to, 0, 0), -12);
                Bench.refused("the type before the indexes", Bench::busy, x -> x.copyElements(from, -1, to, 41, HIGH), -12);
            }
        }
    }

    /** Slot 0 holds 1 to 5, slot 1 holds 11 to 13. */
    private static DialogueGames five() {
        DialogueGames x = new DialogueGames();
        Bench.store(x, 0, LONGS, 1, 2, 3, 4, 5);
        Bench.store(x, 1, LONGS, 11, 12, 13);
        return x;
    }

    private static void copyRanges() {
        Bench.says("Promise 34: INDEX_OUT_OF_RANGE if an index or the count is negative, or an end is beyond the size of either array.");
        for (int from = -2; from <= 7; from++) {
            for (int to = -2; to <= 5; to++) {
                for (int count = -2; count <= 7; count++) {
                    int source = from;
                    int target = to;
                    int number = count;
                    boolean taken = from >= 0 && to >= 0 && count >= 0 && from + count <= 5 && to + count <= 3;
                    String what = "copy " + count + " from " + from + " to " + to;
                    if (!taken) {
                        Bench.refused(what, ArrayBoundaryTest::five, x -> x.copyElements(0, source, 1, target, number), -13);
                        continue;
                    }
                    DialogueGames x = five();
                    Bench.due(what, x.copyElements(0, from, 1, to, count), count);
                    for (int k = 0; k < 3; k++) Bench.due(what + ": element " + k, x.element(1, k), k >= to && k < to + count ? from + k - to + 1 : 11 + k);
                    for (int k = 0; k < 5; k++) Bench.due(what + ": the source stays", x.element(0, k), k + 1);
                }
            }
        }
        int[] wild = {LOW, LOW + 1, -1, 6, 41, 256, HIGH - 1, HIGH};
        for (int number : wild) {
            Bench.refused("source index " + number, ArrayBoundaryTest::five, x -> x.copyElements(0, number, 1, 0, 1), -13);
            Bench.refused("target index " + number, ArrayBoundaryTest::five, x -> x.copyElements(0, 0, 1, number, 1), -13);
            Bench.refused("count " + number, ArrayBoundaryTest::five, x -> x.copyElements(0, 1, 1, 1, number), -13);
            for (int other : wild) {
                Bench.refused("a sum that wraps around", ArrayBoundaryTest::five, x -> x.copyElements(0, number, 1, 0, other), -13);
                Bench.refused("a sum that wraps around", ArrayBoundaryTest::five, x -> x.copyElements(0, 0, 1, number, other), -13);
            }
        }
    }

    private static void copyNothing() {
        Bench.says("Promise 34: a count of 0, and arrays of no elements.");
        DialogueGames x = five();
        Bench.due("at both ends", x.copyElements(0, 5, 1, 3, 0), 0);
        Bench.due("beyond the source's end", x.copyElements(0, 6, 1, 3, 0), -13);
        Bench.due("beyond the target's end", x.copyElements(0, 5, 1, 4, 0), -13);
        x.allocate(2, LONGS, 0);
        x.allocate(3, LONGS, 0);
        Bench.due("from none to none", x.copyElements(2, 0, 3, 0, 0), 0);
        Bench.due("none within itself", x.copyElements(2, 0, 2, 0, 0), 0);
        Bench.due("one from none", x.copyElements(2, 0, 1, 0, 1), -13);
        Bench.due("one to none", x.copyElements(1, 0, 2, 0, 1), -13);
        Bench.due("index 1 of none", x.copyElements(2, 1, 3, 0, 0), -13);
        for (int k = 0; k < 3; k++) Bench.due("all stays", x.element(1, k), 11 + k);
    }

    private static void copyWithinOne() {
        Bench.says("Promise 34: within one array, as System.arraycopy does.");
        for (int from = 0; from <= 5; from++) {
            for (int to = 0; to <= 5; to++) {
                for (int count = 0; count + Math.max(from, to) <= 5; count++) {
                    long[] due = {1, 2, 3, 4, 5};
                    System.arraycopy(due, from, due, to, count);
                    DialogueGames x = five();
                    Bench.due("copy", x.copyElements(0, from, 0, to, count), count);
                    for (int k = 0; k < 5; k++) Bench.due("copy " + count + " from " + from + " to " + to + ": " + k, x.element(0, k), due[k]);
                }
                int number = 6 - Math.max(from, to);
                int source = from;
                int target = to;
                Bench.refused("one too many", ArrayBoundaryTest::five, x -> x.copyElements(0, source, 0, target, number), -13);
            }
        }
    }

    private static void copyAllTypes() {
        Bench.says("Promise 34: arrays of 40 elements of every type.");
        for (int type = 0; type < 4; type++) {
            int chosen = type;
            Bench.Maker maker = () -> {
                DialogueGames x = new DialogueGames();
                x.allocate(1, chosen, 40);
                x.allocate(2, chosen, 40);
                for (int k = 0; k < 40; k++) x.putElement(1, k, k - 20);
                return x;
            };
            DialogueGames x = maker.make();
            Bench.due("all 40", x.copyElements(1, 0, 2, 0, 40), 40);
            for (int k = 0; k < 40; k++) Bench.due("element " + k, x.element(2, k), k - 20);
            Bench.refused("41", maker, y -> y.copyElements(1, 0, 2, 0, 41), -13);
            Bench.refused("40 from 1", maker, y -> y.copyElements(1, 1, 2, 0, 40), -13);
            Bench.refused("40 to 1", maker, y -> y.copyElements(1, 0, 2, 1, 40), -13);
            Bench.due("39 from 1 to 0", x.copyElements(1, 1, 2, 0, 39), 39);
            Bench.due("the first", x.element(2, 0), -19);
            Bench.due("the last stays", x.element(2, 39), 19);
            x.putElement(1, 5, 100);
            Bench.due("a copy is no second name", x.element(2, 4), -15);
        }
        for (int type = FLOATS; type <= DOUBLES; type++) {
            DialogueGames x = with(type, 1, -1, 0, 7);
            for (int k = 0; k < 3; k++) x.compute(0, k, 0, 0);
            x.compute(0, 3, 0, 2);
            Bench.store(x, 1, type, 9, 9, 9, 9);
            x.copyElements(0, 0, 1, 0, 4);
            Bench.due("infinity", x.element(1, 0), Long.MAX_VALUE);
            Bench.due("minus infinity", x.element(1, 1), Long.MIN_VALUE);
            Bench.due("NaN", x.element(1, 2), 0);
            x.compute(1, 2, 0, 0);
            Bench.due("NaN is no 9 and no 0", x.element(1, 2), 0);
            x.compute(1, 3, 1, 1);
            x.compute(1, 3, 0, 0);
            Bench.due("the fraction is copied", x.element(1, 3), Long.MAX_VALUE);
        }
    }
}
