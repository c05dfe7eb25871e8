import java.util.ArrayList;
import java.util.List;
import java.util.Random;

/**
 * Looks at the code that each stage makes: that stage 0 has what was told, that stage 1 names each
 * value once, that stage 2 has no copies and nothing that could be reckoned before, and that stage 3
 * uses no more registers than told.
 */
public final class StagesTest {
    private static final int PROGRAMS = 3000;
    private static final int BLOCKS = 10;
    private static final int FIRST_SLOT = 8;
    private static final int SPARE = FIRST_SLOT + 1 + 10 * 10 + 10 * 12;
    private static final int A_IS_NUMBER = 1;
    private static final int B_IS_NUMBER = 2;

    private final Expect expect = new Expect();
    private final List<Drawer.Op> told = new ArrayList<>();
    private ValueMill mill;
    private int[] from;
    private int[] to;
    private int[] kind;
    private int[] d;
    private int[] a;
    private int[] b;
    private int[] form;
    private int[] end;
    private boolean[] endIsNumber;
    private int longest;
    private int withSlots;
    private int withSpare;
    private int phisKept;
    private int phisGone;

    public static void main(String[] args) throws ReflectiveOperationException {
        if (!Inside.isKnown()) {
            return;
        }
        StagesTest test = new StagesTest();
        for (int seed = 0; seed < PROGRAMS && test.expect.wrong() < 20; seed++) {
            test.draw(new Random(seed));
            test.lookAtStage0();
            test.lookAtStage1();
            test.lookAtStage2();
            for (int registers = 8; registers >= 2; registers--) {
                test.lookAtStage3(registers);
            }
        }
        test.fullestProgram();
        test.phisThatAreCopies();
        test.phisThatAreNumbers();
        test.phisOfEntry();
        test.phisBehindChanges();
        test.noSlotsWhereAllFit();
        test.registersForInnermostLoop();
        test.expect.due("some programs need slots", test.withSlots > 100, true);
        test.expect.due("some programs do without", test.withSlots < 7 * PROGRAMS - 100, true);
        test.expect.due("some edges have rings", test.withSpare > 100, true);
        test.expect.due("some phis are gone", test.phisGone > 100, true);
        test.expect.due("some phis stay", test.phisKept > 100, true);
        test.expect.finish();
    }

    private void draw(Random random) {
        Drawer.Plan plan = Drawer.plan(random);
        told.clear();
        mill = Programs.blocks(plan.blocks());
        for (Drawer.Op op : plan.ops()) {
            if (op.tell(mill)) {
                told.add(op);
            }
        }
        for (Drawer.End last : plan.ends()) {
            last.tell(mill);
        }
    }

    private void make(int stage, int registers) throws ReflectiveOperationException {
        mill.run(stage, registers, 3);
        Object code = Inside.read(mill, "code");
        from = (int[]) Inside.read(code, "from");
        to = (int[]) Inside.read(code, "to");
        kind = (int[]) Inside.read(code, "kind");
        d = (int[]) Inside.read(code, "d");
        a = (int[]) Inside.read(code, "a");
        b = (int[]) Inside.read(code, "b");
        form = (int[]) Inside.read(code, "form");
        end = (int[]) Inside.read(code, "end");
        endIsNumber = (boolean[]) Inside.read(code, "endIsNumber");
        int length = (Integer) Inside.read(code, "length");
        longest = Math.max(longest, length);
        expect.due("the code fits its rows", length <= kind.length, true);
    }

    private int length() throws ReflectiveOperationException {
        return (Integer) Inside.read(Inside.read(mill, "code"), "length");
    }

    private int slotMoves(int section) {
        int moves = 0;
        for (int at = from[section]; at < to[section]; at++) {
            boolean fetches = (form[at] & A_IS_NUMBER) == 0 && a[at] >= FIRST_SLOT;
            moves += kind[at] == 1 && (d[at] >= FIRST_SLOT || fetches) ? 1 : 0;
        }
        return moves;
    }

    private int phiMoves() {
        int moves = 0;
        for (int section = BLOCKS; section < from.length; section++) {
            moves += to[section] - from[section];
        }
        return moves;
    }

    private void lookAtStage0() throws ReflectiveOperationException {
        expect.about("as they are");
        make(0, 2);
        expect.due("as many operations as told", length(), told.size());
        for (int at = 0; at < told.size(); at++) {
            Drawer.Op op = told.get(at);
            boolean there = from[op.block()] <= at && at < to[op.block()];
            boolean same = kind[at] == op.kind() && d[at] == op.d() && a[at] == op.a() && b[at] == op.b();
            expect.due("operation " + at + " stands as told", there && same, true);
        }
        expect.due("nothing along edges", phiMoves(), 0);
    }

    private void lookAtStage1() throws ReflectiveOperationException {
        expect.about("with each value named once");
        make(1, 2);
        boolean[] made = new boolean[1000];
        for (int section = 0; section < BLOCKS; section++) {
            for (int at = from[section]; at < to[section]; at++) {
                if (kind[at] != 17) {
                    expect.due("name " + d[at] + " is made again", made[d[at]], false);
                    made[d[at]] = true;
                }
            }
        }
        for (int section = BLOCKS; section < from.length; section++) {
            for (int at = from[section]; at < to[section]; at++) {
                expect.due("a phi's name is made by an operation too", made[d[at]], false);
                expect.due("edges have moves alone", kind[at], 1);
            }
        }
        phisKept += phiMoves();
    }

    private void lookAtStage2() throws ReflectiveOperationException {
        expect.about("with copies and constants gone");
        int before = phiMoves();
        make(2, 2);
        phisGone += before - phiMoves();
        for (int section = 0; section < BLOCKS; section++) {
            for (int at = from[section]; at < to[section]; at++) {
                expect.due("a copy or a number is left", kind[at] < 2, false);
                boolean numbers = (form[at] & A_IS_NUMBER) != 0 && (form[at] & B_IS_NUMBER) != 0;
                boolean reckoned = kind[at] < 16 && numbers && !fails(at);
                expect.due("kind " + kind[at] + " of two numbers is left", reckoned, false);
            }
        }
    }

    private boolean fails(int at) {
        boolean divides = kind[at] == 5 || kind[at] == 6;
        return divides && (b[at] == 0 || a[at] == Integer.MIN_VALUE && b[at] == -1);
    }

    private void lookAtStage3(int registers) throws ReflectiveOperationException {
        expect.about("and in few registers");
        make(3, registers);
        boolean slots = false;
        for (int section = 0; section < from.length; section++) {
            for (int at = from[section]; at < to[section]; at++) {
                int inA = (form[at] & A_IS_NUMBER) != 0 ? 0 : a[at];
                int inB = (form[at] & B_IS_NUMBER) != 0 ? 0 : b[at];
                boolean isMove = kind[at] == 1;
                boolean keeps = isMove && d[at] >= FIRST_SLOT && (form[at] & A_IS_NUMBER) == 0;
                boolean fetches = isMove && inA >= FIRST_SLOT;
                expect.due("a move between slots", keeps && fetches, false);
                expect.due("d is a register", keeps || d[at] < registers, true);
                expect.due("a is a register", fetches || inA < registers, true);
                expect.due("b is a register", inB < registers, true);
                slots |= keeps;
                withSpare += d[at] == SPARE ? 1 : 0;
            }
        }
        for (int block = 0; block < BLOCKS; block++) {
            boolean written = mill.depth(block) != ValueMill.NONE;
            expect.due("the end's is a register", !written || endIsNumber[block] || end[block] < registers, true);
        }
        withSlots += slots ? 1 : 0;
    }

    /** Ten blocks of twelve operations over ten temporaries that all go round: the rows must hold it. */
    private void fullestProgram() throws ReflectiveOperationException {
        mill = Programs.blocks(10);
        for (int block = 0; block < 10; block++) {
            for (int i = 0; i < 12; i++) {
                boolean calls = block == 0 && i < 10;
                mill.op(block, calls ? 18 : 2, (i * 7 + block) % 10, (i * 3 + block) % 10, (i + block) % 10);
            }
            mill.branch(block, block, (block * 7 + 3) % 10, (block + 1) % 10);
        }
        for (int registers = 2; registers <= 8; registers++) {
            lookAtStage3(registers);
        }
        System.out.println("the longest code has " + longest + " operations of " + kind.length);
        expect.due("the longest code leaves room", longest < kind.length, true);
    }

    /** Two nested loops that only hand a call's outcome round, by copies: nothing but the call stays. */
    private void phisThatAreCopies() throws ReflectiveOperationException {
        expect.about("with copies and constants gone");
        mill = Programs.blocks(4);
        mill.op(0, 18, 1, 0, 3);
        mill.op(0, 1, 2, 1, 0);
        mill.jump(0, 1);
        mill.op(1, 1, 3, 2, 0);
        mill.op(1, 1, 2, 1, 0);
        mill.op(1, 1, 1, 3, 0);
        mill.branch(1, 1, 1, 2);
        mill.op(2, 1, 2, 3, 0);
        mill.branch(2, 2, 1, 3);
        mill.ret(3, 2);
        make(1, 2);
        expect.due("stage 1 has phis", phiMoves() > 0, true);
        make(2, 2);
        expect.due("stage 2 has none", phiMoves(), 0);
        expect.due("stage 2 has the call alone", length(), 1);
    }

    /** A join of equal numbers, and a loop that keeps one: all is known, and only the write stays. */
    private void phisThatAreNumbers() throws ReflectiveOperationException {
        expect.about("with copies and constants gone");
        mill = Programs.blocks(5);
        mill.branch(0, 9, 1, 2);
        mill.op(1, 0, 1, 4, 0);
        mill.jump(1, 3);
        mill.op(2, 0, 2, 2, 0);
        mill.op(2, 2, 1, 2, 2);
        mill.jump(2, 3);
        mill.op(3, 4, 3, 1, 1);
        mill.op(3, 5, 1, 3, 1);
        mill.op(3, 17, 0, 3, 1);
        mill.branch(3, 1, 3, 4);
        mill.ret(4, 3);
        make(2, 2);
        expect.due("no phi of numbers stays", phiMoves(), 0);
        expect.due("the write alone stays", length(), 1);
        expect.due("what it writes is known", a[0], 16);
        expect.due("where it writes is known", b[0], 4);
        expect.due("the end is known", endIsNumber[3] && end[3] == 4, true);
    }

    /** A temporary that begins with 0 and goes round the entry, but never becomes anything. */
    private void phisOfEntry() throws ReflectiveOperationException {
        expect.about("with copies and constants gone");
        mill = Programs.blocks(2);
        mill.op(0, 18, 3, 1, 0);
        mill.branch(0, 3, 0, 1);
        make(1, 2);
        expect.due("stage 1 calls with the phi", (form[0] & A_IS_NUMBER) != 0, false);
        make(2, 2);
        expect.due("stage 2 calls with 0", (form[0] & A_IS_NUMBER) != 0 && a[0] == 0, true);
    }

    /** What two blocks bring to a third differs, until one of them no longer goes there. */
    private void phisBehindChanges() throws ReflectiveOperationException {
        expect.about("with copies and constants gone");
        mill = Programs.blocks(5);
        mill.branch(0, 0, 1, 2);
        mill.op(1, 0, 5, 4, 0);
        mill.jump(1, 3);
        mill.op(2, 0, 5, 6, 0);
        mill.jump(2, 3);
        mill.op(3, 1, 5, 5, 0);
        mill.branch(3, 5, 3, 4);
        mill.ret(4, 5);
        make(2, 2);
        expect.due("a phi of 4 and 6", phiMoves(), 2);
        mill.ret(2, 5);
        make(2, 2);
        expect.due("a phi of 4 alone is gone", phiMoves(), 0);
        expect.due("and its end is known", endIsNumber[3] && end[3] == 4, true);
    }

    /** Three values are live at most. */
    private void noSlotsWhereAllFit() throws ReflectiveOperationException {
        expect.about("and in few registers");
        mill = Programs.blocks(3);
        mill.op(0, 18, 1, 0, 3);
        mill.op(0, 18, 2, 0, 3);
        mill.op(0, 18, 3, 0, 3);
        mill.jump(0, 1);
        mill.op(1, 3, 1, 1, 2);
        mill.op(1, 2, 3, 3, 1);
        mill.branch(1, 1, 1, 2);
        mill.ret(2, 3);
        for (int registers = 8; registers >= 2; registers--) {
            make(3, registers);
            int moves = 0;
            for (int section = 0; section < from.length; section++) {
                moves += slotMoves(section);
            }
            expect.due("slots are used with " + registers, moves > 0, registers < 3);
        }
    }

    /** The loop's own value gets the one register that is left, though others were there before it. */
    private void registersForInnermostLoop() throws ReflectiveOperationException {
        expect.about("and in few registers");
        mill = Programs.blocks(3);
        for (int t = 1; t <= 5; t++) {
            mill.op(0, 18, t, 0, t);
        }
        mill.jump(0, 1);
        mill.op(1, 0, 9, 1, 0);
        mill.op(1, 3, 5, 5, 9);
        mill.branch(1, 5, 1, 2);
        for (int t = 1; t <= 4; t++) {
            mill.op(2, 9, 0, 0, t);
        }
        make(3, 3);
        expect.due("slots are used before the loop", slotMoves(0) > 0, true);
        expect.due("no slots are used in the loop", slotMoves(1), 0);
        expect.due("nor on its way round", slotMoves(BLOCKS + 2), 0);
        expect.due("slots are used after the loop", slotMoves(2) > 0, true);
    }
}
