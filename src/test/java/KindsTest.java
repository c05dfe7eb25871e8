import java.math.BigInteger;

/**
 * What each kind of operation makes, with the ints at which it could wrap, shift too far, lose a sign
 * or end the run: named ones written out, and all pairs of them reckoned with numbers that never wrap.
 * Each is told so that a stage knows both of a and b before, one of them, or none.
 */
public final class KindsTest {
    private static final int LEAST = Integer.MIN_VALUE;
    private static final int MOST = Integer.MAX_VALUE;
    private static final int RETURNED = 0;
    private static final int DIVISION = 1;
    private static final int ADDRESS = 2;
    private static final BigInteger WRAP = BigInteger.ONE.shiftLeft(32);
    private static final int[] EDGES = {
        LEAST, LEAST + 1, -65536, -33, -32, -31, -2, -1, 0, 1, 2, 30, 31, 32, 33, 46341, 65536, MOST - 1, MOST,
    };
    private static final int[][] STAGES = {{0, 2}, {1, 2}, {2, 2}, {3, 2}, {3, 3}, {3, 8}};
    private static final int KNOWN_A = 1;
    private static final int KNOWN_B = 2;

    private final Expect e = new Expect();

    public static void main(String[] args) {
        KindsTest test = new KindsTest();
        test.copies();
        test.plusMinusTimes();
        test.overAndRest();
        test.divisionEnds();
        test.bits();
        test.shifts();
        test.comparisons();
        test.allPairs();
        test.words();
        test.callsWrap();
        test.callsGoOn();
        test.becomeWhatTheyTake();
        test.e.finish();
    }

    /** Temporary 3 is a, 4 is b, and 5 becomes what the operation makes; what is not known is read. */
    private static ValueMill told(int kind, int a, int b, int known) {
        ValueMill x = Programs.blocks(1);
        x.memory(0, a);
        x.memory(31, b);
        x.op(0, 0, 1, 31, 0);
        x.op(0, (known & KNOWN_A) != 0 ? 0 : 16, 3, (known & KNOWN_A) != 0 ? a : 0, 0);
        x.op(0, (known & KNOWN_B) != 0 ? 0 : 16, 4, (known & KNOWN_B) != 0 ? b : 1, 0);
        x.op(0, kind, 5, 3, kind == 1 ? 0 : 4);
        x.ret(0, 5);
        return x;
    }

    private void due(int kind, int a, int b, int ending, int value) {
        for (int known = 0; known < 4; known++) {
            ValueMill x = told(kind, a, b, known);
            for (int[] stage : STAGES) {
                String what = "kind " + kind + " of " + a + " and " + b + " at stage " + stage[0];
                e.due(what, x.run(stage[0], stage[1], 1), ending);
                e.due(what + ": value()", x.value(), value);
            }
        }
    }

    private void makes(int kind, int a, int b, int value) {
        due(kind, a, b, RETURNED, value);
    }

    private void ends(int kind, int a, int b) {
        due(kind, a, b, DIVISION, 0);
    }

    private void copies() {
        e.about("1 d becomes a (b is 0)");
        for (int a : EDGES) {
            makes(1, a, 5, a);
        }
    }

    private void plusMinusTimes() {
        e.about("2 a plus b, 3 minus, 4 times (as ints do them)");
        makes(2, MOST, 1, LEAST);
        makes(2, LEAST, -1, MOST);
        makes(2, LEAST, LEAST, 0);
        makes(2, MOST, MOST, -2);
        makes(2, MOST, 0, MOST);
        makes(2, MOST - 1, 1, MOST);
        makes(3, LEAST, 1, MOST);
        makes(3, MOST, -1, LEAST);
        makes(3, 0, LEAST, LEAST);
        makes(3, -1, LEAST, MOST);
        makes(3, LEAST, LEAST, 0);
        makes(3, 3, 10, -7);
        makes(4, 65536, 65536, 0);
        makes(4, 65536, 32768, LEAST);
        makes(4, 46341, 46341, -2147479015);
        makes(4, LEAST, -1, LEAST);
        makes(4, MOST, MOST, 1);
        makes(4, MOST, 2, -2);
        makes(4, 123456789, 1000, -1097262584);
    }

    private void overAndRest() {
        e.about("5 a over b, 6 what that leaves, as Java's ints do them (but see DIVISION)");
        makes(5, 7, 2, 3);
        makes(5, -7, 2, -3);
        makes(5, 7, -2, -3);
        makes(5, -7, -2, 3);
        makes(5, 0, -1, 0);
        makes(5, LEAST, 1, LEAST);
        makes(5, LEAST, -2, 1073741824);
        makes(5, LEAST, LEAST, 1);
        makes(5, LEAST + 1, -1, MOST);
        makes(5, MOST, -1, LEAST + 1);
        makes(5, MOST, LEAST, 0);
        makes(6, 7, 2, 1);
        makes(6, -7, 2, -1);
        makes(6, 7, -2, 1);
        makes(6, -7, -2, -1);
        makes(6, LEAST, 1, 0);
        makes(6, LEAST, 2, 0);
        makes(6, LEAST, MOST, -1);
        makes(6, LEAST + 1, -1, 0);
        makes(6, MOST, LEAST, MOST);
        makes(6, 0, -1, 0);
    }

    private void divisionEnds() {
        e.about("5 and 6 with b 0, or a the least int and b -1, end it: DIVISION");
        for (int kind = 5; kind <= 6; kind++) {
            ends(kind, 7, 0);
            ends(kind, 0, 0);
            ends(kind, -1, 0);
            ends(kind, LEAST, 0);
            ends(kind, MOST, 0);
            ends(kind, LEAST, -1);
            makes(kind, 7, 1, kind == 5 ? 7 : 0);
            makes(kind, 7, -1, kind == 5 ? -7 : 0);
        }
    }

    private void bits() {
        e.about("7 and, 8 or, 9 xor, bit by bit");
        makes(7, 12, 10, 8);
        makes(7, LEAST, -1, LEAST);
        makes(7, LEAST, MOST, 0);
        makes(8, 12, 10, 14);
        makes(8, LEAST, MOST, -1);
        makes(8, LEAST, 0, LEAST);
        makes(9, 12, 10, 6);
        makes(9, -1, LEAST, MOST);
        makes(9, LEAST, LEAST, 0);
    }

    private void shifts() {
        e.about("10 a moved up by b, 11 down with its sign, 12 down with zeros (by the lowest five bits of b)");
        makes(10, 1, 0, 1);
        makes(10, 1, 31, LEAST);
        makes(10, 1, 32, 1);
        makes(10, 1, 33, 2);
        makes(10, 3, -1, LEAST);
        makes(10, 5, LEAST, 5);
        makes(10, 5, MOST, LEAST);
        makes(11, LEAST, 31, -1);
        makes(11, MOST, 31, 0);
        makes(11, -8, 1, -4);
        makes(11, -7, 1, -4);
        makes(11, -8, 32, -8);
        makes(11, 8, 34, 2);
        makes(11, -8, -32, -8);
        makes(11, -1, -1, -1);
        makes(12, LEAST, 31, 1);
        makes(12, -1, 31, 1);
        makes(12, -1, 32, -1);
        makes(12, -8, 1, 2147483644);
        makes(12, -1, -1, 1);
        makes(12, LEAST, LEAST, LEAST);
    }

    private void comparisons() {
        e.about("13 1 if a is b, 14 if a is less, 15 if a is less without signs, else 0");
        makes(13, LEAST, LEAST, 1);
        makes(13, LEAST, MOST, 0);
        makes(13, 0, 0, 1);
        makes(13, 0, LEAST, 0);
        makes(14, -1, 0, 1);
        makes(14, 0, 0, 0);
        makes(14, 0, -1, 0);
        makes(14, LEAST, MOST, 1);
        makes(14, MOST, LEAST, 0);
        makes(14, LEAST, LEAST, 0);
        makes(14, MOST - 1, MOST, 1);
        makes(15, 0, 0, 0);
        makes(15, 0, 1, 1);
        makes(15, 0, -1, 1);
        makes(15, -1, 0, 0);
        makes(15, MOST, LEAST, 1);
        makes(15, LEAST, MOST, 0);
        makes(15, -2, -1, 1);
        makes(15, -1, -1, 0);
    }

    private void allPairs() {
        e.about("OPERATIONS have a KIND, d, a and b");
        for (int kind = 2; kind <= 15; kind++) {
            for (int a : EDGES) {
                for (int b : EDGES) {
                    BigInteger made = made(kind, BigInteger.valueOf(a), BigInteger.valueOf(b));
                    due(kind, a, b, made == null ? DIVISION : RETURNED, made == null ? 0 : made.intValue());
                }
            }
        }
    }

    /** What an operation makes in numbers without end, to be cut to an int; null where it ends the run. */
    private static BigInteger made(int kind, BigInteger a, BigInteger b) {
        BigInteger step = BigInteger.TWO.pow(b.mod(BigInteger.valueOf(32)).intValue());
        boolean divides = b.signum() != 0 && a.divide(b).bitLength() < 32;
        return switch (kind) {
            case 2 -> a.add(b);
            case 3 -> a.subtract(b);
            case 4 -> a.multiply(b);
            case 5 -> divides ? a.divide(b) : null;
            case 6 -> divides ? a.remainder(b) : null;
            case 7 -> a.and(b);
            case 8 -> a.or(b);
            case 9 -> a.xor(b);
            case 10 -> a.multiply(step);
            case 11 -> a.subtract(a.mod(step)).divide(step);
            case 12 -> a.mod(WRAP).divide(step);
            case 13 -> truth(a.equals(b));
            case 14 -> truth(a.compareTo(b) < 0);
            default -> truth(a.mod(WRAP).compareTo(b.mod(WRAP)) < 0);
        };
    }

    private static BigInteger truth(boolean is) {
        return is ? BigInteger.ONE : BigInteger.ZERO;
    }

    private void words() {
        for (int address : new int[] {LEAST, LEAST + 31, -32, -1, 0, 1, 30, 31, 32, 33, 64, 65536, MOST}) {
            for (int[] stage : STAGES) {
                read(address, stage, false);
                read(address, stage, true);
                write(address, stage, false);
                write(address, stage, true);
            }
        }
    }

    private static boolean isWord(int address) {
        return 0 <= address && address <= 31;
    }

    /** One block, with the address in temporary 3: known before, or come from a word. */
    private static ValueMill withAddress(int address, boolean known) {
        ValueMill x = Programs.blocks(1);
        for (int i = 0; i < 32; i++) {
            x.memory(i, i - 50);
        }
        x.memory(7, address);
        x.op(0, 0, 3, known ? address : 7, 0);
        if (!known) {
            x.op(0, 16, 3, 3, 0);
        }
        return x;
    }

    private void read(int address, int[] stage, boolean known) {
        e.about("16 d becomes the word of the memory whose number a has (b is 0)");
        ValueMill x = withAddress(address, known);
        x.op(0, 16, 3, 3, 0);
        x.op(0, 18, 4, 3, 1);
        x.ret(0, 3);
        e.due("read of " + address, x.run(stage[0], stage[1], 1), isWord(address) ? RETURNED : ADDRESS);
        e.due("word " + address, x.value(), isWord(address) ? address - 50 : 0);
        e.due("calls behind the read of " + address, x.calls(), isWord(address) ? 1 : 0);
    }

    private void write(int address, int[] stage, boolean known) {
        e.about("17 the word whose number b has becomes a (d is 0)");
        ValueMill x = withAddress(address, known);
        x.op(0, 0, 4, LEAST, 0);
        x.op(0, 17, 0, 4, 3);
        x.op(0, 18, 5, 4, 1);
        x.ret(0, 4);
        e.due("write to " + address, x.run(stage[0], stage[1], 1), isWord(address) ? RETURNED : ADDRESS);
        e.due("returned behind it", x.value(), isWord(address) ? LEAST : 0);
        e.due("calls behind the write to " + address, x.calls(), isWord(address) ? 1 : 0);
        for (int i = 0; i < 32; i++) {
            int told = i == 7 ? address : i - 50;
            e.due("word " + i + " behind the write to " + address, x.word(i), i == address ? LEAST : told);
        }
    }

    private void callsWrap() {
        e.about("with a: d becomes a * 31 + b + 7 * how many calls there were before in this run");
        for (int a : EDGES) {
            for (int[] stage : STAGES) {
                ValueMill x = Programs.blocks(1);
                x.op(0, 0, 3, a, 0);
                x.op(0, 18, 4, 3, 0);
                x.op(0, 18, 4, 3, 9);
                x.op(0, 18, 3, 3, 5);
                x.ret(0, 3);
                x.run(stage[0], stage[1], 1);
                BigInteger times = BigInteger.valueOf(a).multiply(BigInteger.valueOf(31));
                e.due("the first with " + a, x.call(0, 2), times.intValue());
                e.due("the second with " + a, x.call(1, 2), times.add(BigInteger.valueOf(16)).intValue());
                e.due("the third with " + a, x.value(), times.add(BigInteger.valueOf(19)).intValue());
            }
        }
        for (int[] stage : STAGES) {
            ValueMill x = Programs.countdown(200);
            x.ret(3, 3);
            x.run(stage[0], stage[1], 500);
            e.due("the 200th with 0", x.value(), 5 + 7 * 199);
            x.run(stage[0], stage[1], 500);
            e.due("the count begins with each run", x.value(), 5 + 7 * 199);
            e.due("the first of the second run", x.call(0, 2), 199 * 31 + 5);
        }
    }

    /** Behind 200 calls their count goes on, though what they were is no longer kept. */
    private void callsGoOn() {
        e.about("7 * how many calls there were before in this run");
        for (int[] stage : STAGES) {
            ValueMill x = Programs.blocks(1);
            for (int i = 0; i < 11; i++) {
                x.op(0, 18, 1, 2, i % 10);
            }
            x.op(0, 17, 0, 1, 0);
            x.jump(0, 0);
            for (int rounds : new int[] {1, 18, 19, 94, 500}) {
                x.run(stage[0], stage[1], rounds);
                e.due("calls", x.calls(), 11 * rounds);
                e.due("the last of " + rounds + " rounds", x.word(0), 7 * (11 * rounds - 1));
            }
        }
    }

    private void becomeWhatTheyTake() {
        e.about("an operation may become what it takes");
        int a = 29;
        int b = 3;
        for (int kind = 2; kind <= 15; kind++) {
            int both = made(kind, BigInteger.valueOf(a), BigInteger.valueOf(b)).intValue();
            int twice = made(kind, BigInteger.valueOf(a), BigInteger.valueOf(a)).intValue();
            becomes(kind, 3, 4, 3, both);
            becomes(kind, 3, 4, 4, both);
            becomes(kind, 3, 3, 3, twice);
            becomes(kind, 3, 3, 5, twice);
        }
        becomes(1, 3, 0, 3, a);
        becomes(16, 4, 0, 4, 77);
        becomes(18, 3, 2, 3, a * 31 + 2);
    }

    /** 29 in temporary 3, and 3 in 4, both out of the memory; in word 3, 77. */
    private void becomes(int kind, int a, int b, int d, int value) {
        ValueMill x = Programs.blocks(1);
        x.memory(0, 29);
        x.memory(31, 3);
        x.memory(3, 77);
        x.op(0, 0, 1, 31, 0);
        x.op(0, 16, 3, 0, 0);
        x.op(0, 16, 4, 1, 0);
        x.op(0, kind, d, a, b);
        x.ret(0, d);
        for (int[] stage : STAGES) {
            String what = "kind " + kind + ": " + d + " of " + a + " and " + b + " at stage " + stage[0];
            e.due(what, x.run(stage[0], stage[1], 1), RETURNED);
            e.due(what + ": value()", x.value(), value);
        }
    }
}
