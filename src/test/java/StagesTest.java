import java.lang.reflect.Field;
import java.util.Random;

/**
 * Looks at the code that each stage makes: that stage 1 names each value once, that stage 2 has no
 * copies and nothing that could be reckoned before, and that stage 3 uses no more registers than told.
 */
public final class StagesTest {
    private static final int PROGRAMS = 3000;
    private static final int BLOCKS = 10;
    private static final int FIRST_SLOT = 8;
    private static final int SPARE = FIRST_SLOT + 1 + 10 * 10 + 10 * 12;
    private static final int A_IS_NUMBER = 1;
    private static final int B_IS_NUMBER = 2;

    private final Expect expect = new Expect();
    private ValueMill mill;
    private int[] from;
    private int[] to;
    private int[] kind;
    private int[] d;
    private int[] a;
    private int[] b;
    private int[] form;
    private int[] end;
    private boolean[] endIsNumber;
    private int longest;
    private int withSlots;
    private int withSpare;
    private int phisKept;
    private int phisGone;

    public static void main(String[] args) throws ReflectiveOperationException {
        StagesTest test = new StagesTest();
        for (int seed = 0; seed < PROGRAMS && test.expect.wrong() < 20; seed++) {
            test.draw(new Random(seed));
            test.lookAtStage1();
            test.lookAtStage2();
            for (int registers = 2; registers <= 8; registers++) {
                test.lookAtStage3(registers);
            }
        }
        test.fullestProgram();
        test.expect.due("some programs need slots", test.withSlots > 100, true);
        test.expect.due("some programs do without", test.withSlots < 7 * PROGRAMS - 100, true);
        test.expect.due("some edges have rings", test.withSpare > 100, true);
        test.expect.due("some phis are gone", test.phisGone > 100, true);
        test.expect.due("some phis stay", test.phisKept > 100, true);
        test.expect.finish();
    }

    private void draw(Random random) {
        int blocks = 1 + random.nextInt(10);
        Drawer drawer = new Drawer(random, 2 + random.nextInt(9), blocks);
        mill = new ValueMill();
        for (int block = 0; block < blocks; block++) {
            mill.block();
        }
        for (int block = 0; block < blocks; block++) {
            for (int i = random.nextInt(13); i > 0; i--) {
                Drawer.Op op = drawer.op(block);
                mill.op(block, op.kind(), op.d(), op.a(), op.b());
            }
            Drawer.End last = drawer.end(block);
            if (last.how() == Drawer.JUMP) {
                mill.jump(block, last.yes());
            } else if (last.how() == Drawer.BRANCH) {
                mill.branch(block, last.t(), last.yes(), last.no());
            }
        }
    }

    private void make(int stage, int registers) throws ReflectiveOperationException {
        mill.run(stage, registers, 3);
        Object code = read(mill, "code");
        from = (int[]) read(code, "from");
        to = (int[]) read(code, "to");
        kind = (int[]) read(code, "kind");
        d = (int[]) read(code, "d");
        a = (int[]) read(code, "a");
        b = (int[]) read(code, "b");
        form = (int[]) read(code, "form");
        end = (int[]) read(code, "end");
        endIsNumber = (boolean[]) read(code, "endIsNumber");
        int length = (Integer) read(code, "length");
        longest = Math.max(longest, length);
        expect.due("the code fits its rows", length <= kind.length, true);
    }

    private static Object read(Object owner, String name) throws ReflectiveOperationException {
        Field field = owner.getClass().getDeclaredField(name);
        field.setAccessible(true);
        return field.get(owner);
    }

    private int phiMoves() {
        int moves = 0;
        for (int section = BLOCKS; section < from.length; section++) {
            moves += to[section] - from[section];
        }
        return moves;
    }

    private void lookAtStage1() throws ReflectiveOperationException {
        make(1, 2);
        boolean[] made = new boolean[1000];
        for (int section = 0; section < BLOCKS; section++) {
            for (int at = from[section]; at < to[section]; at++) {
                if (kind[at] != 17) {
                    expect.due("name " + d[at] + " is made again", made[d[at]], false);
                    made[d[at]] = true;
                }
            }
        }
        for (int section = BLOCKS; section < from.length; section++) {
            for (int at = from[section]; at < to[section]; at++) {
                expect.due("a phi's name is made by an operation too", made[d[at]], false);
                expect.due("edges have moves alone", kind[at], 1);
            }
        }
        phisKept += phiMoves();
    }

    private void lookAtStage2() throws ReflectiveOperationException {
        int before = phiMoves();
        make(2, 2);
        phisGone += before - phiMoves();
        for (int section = 0; section < BLOCKS; section++) {
            for (int at = from[section]; at < to[section]; at++) {
                expect.due("a copy or a number is left", kind[at] < 2, false);
                boolean numbers = (form[at] & A_IS_NUMBER) != 0 && (form[at] & B_IS_NUMBER) != 0;
                boolean reckoned = kind[at] < 16 && numbers && !fails(at);
                expect.due("kind " + kind[at] + " of two numbers is left", reckoned, false);
            }
        }
    }

    private boolean fails(int at) {
        boolean divides = kind[at] == 5 || kind[at] == 6;
        return divides && (b[at] == 0 || a[at] == Integer.MIN_VALUE && b[at] == -1);
    }

    private void lookAtStage3(int registers) throws ReflectiveOperationException {
        make(3, registers);
        boolean slots = false;
        for (int section = 0; section < from.length; section++) {
            for (int at = from[section]; at < to[section]; at++) {
                int inA = (form[at] & A_IS_NUMBER) != 0 ? 0 : a[at];
                int inB = (form[at] & B_IS_NUMBER) != 0 ? 0 : b[at];
                boolean isMove = kind[at] == 1;
                boolean keeps = isMove && d[at] >= FIRST_SLOT && (form[at] & A_IS_NUMBER) == 0;
                boolean fetches = isMove && inA >= FIRST_SLOT;
                expect.due("a move between slots", keeps && fetches, false);
                expect.due("d is a register", keeps || d[at] < registers, true);
                expect.due("a is a register", fetches || inA < registers, true);
                expect.due("b is a register", inB < registers, true);
                slots |= keeps;
                withSpare += d[at] == SPARE ? 1 : 0;
            }
        }
        for (int block = 0; block < BLOCKS; block++) {
            boolean written = mill.depth(block) != ValueMill.NONE;
            expect.due("the end's is a register", !written || endIsNumber[block] || end[block] < registers, true);
        }
        withSlots += slots ? 1 : 0;
    }

    /** Ten blocks of twelve operations over ten temporaries that all go round: the rows must hold it. */
    private void fullestProgram() throws ReflectiveOperationException {
        mill = new ValueMill();
        for (int block = 0; block < 10; block++) {
            mill.block();
        }
        for (int block = 0; block < 10; block++) {
            for (int i = 0; i < 12; i++) {
                boolean opens = i == 0;
                mill.op(block, opens ? 18 : i == 11 ? 2 : 1, opens ? 9 : (i + 8) % 10, (i + 9) % 10, i == 11 ? 3 : 0);
            }
            mill.branch(block, block, (block * 7 + 3) % 10, (block + 1) % 10);
        }
        for (int registers = 2; registers <= 8; registers++) {
            lookAtStage3(registers);
        }
        System.out.println("the longest code has " + longest + " operations of " + kind.length);
        expect.due("the longest code leaves room", longest < kind.length, true);
    }
}
