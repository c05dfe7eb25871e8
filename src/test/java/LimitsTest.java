import java.util.function.Predicate;
import java.util.function.Supplier;

/**
 * The limits of the calls that change something, promises 1 to 8: the last input that is taken and
 * the first that is refused, on both sides. "A call that is refused changes nothing": an object that
 * refused a call is seen beside one that was told the same without it.
 */
public final class LimitsTest {
    private static final int LEAST = Integer.MIN_VALUE;
    private static final int MOST = Integer.MAX_VALUE;
    private static final int NONE = ValueMill.NONE;

    private final Expect e = new Expect();

    /** A call with one of its parameters left open; whether it was taken. */
    private interface Open {
        boolean isTaken(ValueMill x, int value);
    }

    public static void main(String[] args) {
        LimitsTest test = new LimitsTest();
        test.noBlocks();
        test.memoryOfZeros();
        test.tenBlocks();
        test.entryIsTheFirst();
        test.blockIsThere();
        test.opKinds();
        test.opD();
        test.opA();
        test.opB();
        test.opNumbers();
        test.opCallNumbers();
        test.opTold0();
        test.opTwelve();
        test.opFull();
        test.endAtFirst();
        test.jumpEnds();
        test.branchEnds();
        test.retEnds();
        test.memoryWords();
        test.runStages();
        test.runRegisters();
        test.runFuel();
        test.runWithoutBlock();
        test.lastOf512();
        test.e.finish();
    }

    private void taken(String what, Supplier<ValueMill> base, Predicate<ValueMill> call) {
        e.due(what, call.test(base.get()), true);
    }

    private void refused(String what, Supplier<ValueMill> base, Predicate<ValueMill> call) {
        for (View view : View.values()) {
            ValueMill asked = base.get();
            e.due(what, call.test(asked), false);
            e.due(what + ", then " + view, view.of(asked), view.of(base.get()));
        }
    }

    /** Refused before a run, and behind runs whose code may still be kept. */
    private void refusedByBusy(String what, Predicate<ValueMill> call) {
        refused(what, Programs::busy, call);
        refused(what + " behind a run", () -> Programs.busyRun(0), call);
        refused(what + " behind a run in registers", () -> Programs.busyRun(3), call);
    }

    /** A parameter is taken from low to high, and not beyond. */
    private void limits(String what, int low, int high, Open call) {
        for (int value : new int[] {low, high}) {
            taken(what + " " + value, Programs::busy, x -> call.isTaken(x, value));
        }
        for (int value : new int[] {low - 1, high + 1, LEAST, MOST}) {
            refusedByBusy(what + " " + value, x -> call.isTaken(x, value));
        }
    }

    /** A parameter is a block: with each number of blocks the last one is taken, and the next is not. */
    private void blockLimits(String what, Open call) {
        limits(what, 0, 9, call);
        for (int count = 0; count < 10; count++) {
            int blocks = count;
            String with = what + " with " + count + " blocks, ";
            for (int value : new int[] {0, count - 1}) {
                if (count > 0) {
                    taken(with + value, () -> Programs.blocks(blocks), x -> call.isTaken(x, value));
                }
            }
            for (int value : new int[] {-1, count, 9, 10}) {
                if (value < 0 || value >= count) {
                    refused(with + value, () -> Programs.blocks(blocks), x -> call.isTaken(x, value));
                }
            }
        }
    }

    private static boolean isTold0(int kind) {
        return kind == 0 || kind == 1 || kind == 16;
    }

    private void noBlocks() {
        e.about("No blocks");
        e.due("order", new ValueMill().order(0), NONE);
        e.due("depth", new ValueMill().depth(0), NONE);
        e.due("nearest", new ValueMill().nearest(0), NONE);
        e.due("live", new ValueMill().live(0, 0), false);
        e.due("phi", new ValueMill().phi(0, 0), false);
        e.due("frontier", new ValueMill().frontier(0, 0), false);
        e.due("the first block", new ValueMill().block(), 0);
        refused("op", ValueMill::new, x -> x.op(0, 0, 0, 0, 0));
        refused("jump", ValueMill::new, x -> x.jump(0, 0));
        refused("branch", ValueMill::new, x -> x.branch(0, 0, 0, 0));
        refused("ret", ValueMill::new, x -> x.ret(0, 0));
        refused("run", ValueMill::new, x -> x.run(0, 2, 1) != NONE);
    }

    private void memoryOfZeros() {
        e.about("with what was told of them (0 at first)");
        for (int stage = 0; stage <= 3; stage++) {
            ValueMill x = Programs.blocks(1);
            x.run(stage, 2, 1);
            for (int i = 0; i < 32; i++) {
                e.due("word " + i + " at stage " + stage, x.word(i), 0);
            }
        }
    }

    private void tenBlocks() {
        e.about("One more block. Answers its number; NONE when there are 10.");
        ValueMill x = new ValueMill();
        for (int i = 0; i < 10; i++) {
            e.due("block " + i, x.block(), i);
        }
        e.due("an 11th", x.block(), NONE);
        e.due("a 12th", x.block(), NONE);
        refusedByBusy("block()", y -> y.block() != NONE);
        refused("block() twice", Programs::full, y -> y.block() != NONE || y.block() != NONE);
    }

    private void entryIsTheFirst() {
        e.about("BLOCKS are numbered from 0 on, 10 at most; block 0 is the ENTRY.");
        ValueMill x = new ValueMill();
        for (int block = 0; block < 10; block++) {
            e.due("the next number", x.block(), block);
            x.op(block, 0, 0, 100 + block, 0);
            x.jump(block, 0);
            x.ret(0, 0);
            for (int stage = 0; stage <= 3; stage++) {
                x.run(stage, 2, 1);
                e.due("begins at block 0 of " + (block + 1), x.value(), 100);
            }
            e.due("first in the order", x.order(0), 0);
            e.due("the others are dead", x.order(1), NONE);
        }
    }

    private void blockIsThere() {
        e.about("One more operation of a block. Answers true; false when there is no such block");
        blockLimits("op in block", (x, v) -> x.op(v, 0, 1, 1, 0));
        e.about("A block's end goes to another one. Answers true; false when there are none such.");
        blockLimits("jump from", (x, v) -> x.jump(v, 0));
        blockLimits("jump to", (x, v) -> x.jump(0, v));
        e.about("A block's end goes by a temporary. Answers true, or false.");
        blockLimits("branch from", (x, v) -> x.branch(v, 1, 0, 0));
        blockLimits("branch yes", (x, v) -> x.branch(0, 1, v, 0));
        blockLimits("branch no", (x, v) -> x.branch(0, 1, 0, v));
        e.about("A block's end returns a temporary. Answers true, or false.");
        blockLimits("ret in", (x, v) -> x.ret(v, 1));
    }

    private void opKinds() {
        e.about("or kind, d, a, b are not such");
        limits("kind", 0, 18, (x, v) -> x.op(0, v, 0, 0, 0));
        for (int kind = 0; kind <= 18; kind++) {
            int each = kind;
            taken("kind " + kind, Programs::busy, x -> x.op(0, each, 0, 0, 0));
        }
    }

    private void opD() {
        e.about("d, a, b are temporaries, where nothing else is said");
        for (int kind = 0; kind <= 18; kind++) {
            int each = kind;
            int b = isTold0(kind) ? 0 : 1;
            limits("d of kind " + kind, 0, kind == 17 ? 0 : 9, (x, v) -> x.op(0, each, v, 1, b));
        }
    }

    private void opA() {
        e.about("d, a, b are temporaries, where nothing else is said");
        for (int kind = 1; kind <= 18; kind++) {
            int each = kind;
            int d = kind == 17 ? 0 : 1;
            int b = isTold0(kind) ? 0 : 1;
            limits("a of kind " + kind, 0, 9, (x, v) -> x.op(0, each, d, v, b));
        }
    }

    private void opB() {
        e.about("d, a, b are temporaries, where nothing else is said");
        for (int kind = 0; kind <= 18; kind++) {
            int each = kind;
            int d = kind == 17 ? 0 : 1;
            limits("b of kind " + kind, 0, isTold0(kind) ? 0 : 9, (x, v) -> x.op(0, each, d, 1, v));
        }
    }

    private void opNumbers() {
        e.about("0 d becomes the number a (any int; b is 0)");
        for (int number : new int[] {LEAST, LEAST + 1, -1, 0, 9, 10, 19, 32, MOST - 1, MOST}) {
            for (int stage = 0; stage <= 3; stage++) {
                ValueMill x = Programs.blocks(1);
                e.due("the number " + number, x.op(0, 0, 0, number, 0), true);
                x.run(stage, 2, 1);
                e.due("the number " + number + " at stage " + stage, x.value(), number);
            }
        }
    }

    private void opCallNumbers() {
        e.about("18 an outer CALL of number b (0 .. 9)");
        for (int number = 0; number <= 9; number++) {
            for (int stage = 0; stage <= 3; stage++) {
                ValueMill x = Programs.blocks(1);
                e.due("call of " + number, x.op(0, 18, 0, 0, number), true);
                x.run(stage, 2, 1);
                e.due("its number", x.call(0, 0), number);
                e.due("what came of it", x.value(), number);
            }
        }
        limits("call of", 0, 9, (x, v) -> x.op(0, 18, 0, 0, v));
    }

    private void opTold0() {
        e.about("What is told to be 0 must be 0");
        for (int wrong : new int[] {-1, 1, 9, 10, LEAST, MOST}) {
            refusedByBusy("a number with b " + wrong, x -> x.op(0, 0, 0, 0, wrong));
            refusedByBusy("a copy with b " + wrong, x -> x.op(0, 1, 0, 0, wrong));
            refusedByBusy("a read with b " + wrong, x -> x.op(0, 16, 0, 0, wrong));
            refusedByBusy("a write with d " + wrong, x -> x.op(0, 17, wrong, 0, 0));
        }
    }

    private void opTwelve() {
        e.about("it has 12");
        for (int block = 0; block < 10; block++) {
            int each = block;
            Supplier<ValueMill> full = () -> withTwelve(each);
            e.due("room in block " + block, View.roomIn(Programs.row(10), block), 12);
            for (int kind = 0; kind <= 18; kind++) {
                int one = kind;
                refused("a 13th, of kind " + kind, full, x -> x.op(each, one, 0, 0, 0));
            }
            for (int stage = 0; stage <= 3; stage++) {
                ValueMill x = full.get();
                x.op(block, 2, 0, 0, 1);
                x.run(stage, 2, 10);
                e.due("all twelve are done, at stage " + stage, x.value(), 11);
                e.due("the next block has room", View.roomIn(x, (block + 1) % 10), 12);
            }
        }
    }

    /** A row of ten in which one block has all it can have: 1 in temporary 1, and eleven times one more. */
    private static ValueMill withTwelve(int block) {
        ValueMill x = Programs.row(10);
        x.op(block, 0, 1, 1, 0);
        for (int i = 0; i < 11; i++) {
            x.op(block, 2, 0, 0, 1);
        }
        return x;
    }

    private void opFull() {
        e.about("A block has up to 12 OPERATIONS");
        for (int block = 0; block < 10; block++) {
            int each = block;
            e.due("no room in block " + block, View.roomIn(Programs.full(), block), 0);
            refused("a 121st in block " + block, Programs::full, x -> x.op(each, 18, 5, 6, 9));
        }
        for (int registers = 2; registers <= 8; registers++) {
            for (int stage = 0; stage <= 3; stage++) {
                ValueMill x = Programs.full();
                e.due("ended", x.run(stage, registers, 10), 0);
                e.due("at stage " + stage + " with " + registers, x.value(), sumsInTurn(5));
            }
        }
    }

    /** Ten numbers 0 .. 9, to each of which in turn the next one is added, 110 times in all. */
    private static int sumsInTurn(int asked) {
        int[] sums = {0, 1, 2, 3, 4, 5, 6, 7, 8, 9};
        for (int i = 10; i < 120; i++) {
            sums[i % 10] += sums[(i + 1) % 10];
        }
        return sums[asked];
    }

    private void endAtFirst() {
        e.about("or returns one (at first it returns temporary 0)");
        for (int block = 0; block < 10; block++) {
            ValueMill x = Programs.blocks(10);
            x.op(block, 0, 0, -8, 0);
            x.op(0, 0, 9, 4, 0);
            if (block > 0) {
                x.jump(0, block);
            }
            for (int stage = 0; stage <= 3; stage++) {
                e.due("block " + block + " returns", x.run(stage, 2, 2), 0);
                e.due("block " + block + " at stage " + stage, x.value(), -8);
            }
            e.due("live behind it", x.live(block, 9), false);
        }
    }

    private void jumpEnds() {
        e.about("and an END: it goes to a block");
        for (int to = 1; to < 10; to++) {
            ValueMill x = Programs.blocks(10);
            x.op(to, 0, 0, 10 + to, 0);
            e.due("jump to " + to, x.jump(0, to), true);
            for (int stage = 0; stage <= 3; stage++) {
                x.run(stage, 2, 2);
                e.due("goes to " + to, x.value(), 10 + to);
            }
        }
        taken("jump to itself", () -> Programs.blocks(1), x -> x.jump(0, 0));
        taken("the last to itself", Programs::busy, x -> x.jump(9, 9));
    }

    private void branchEnds() {
        e.about("or to one of two by a temporary");
        limits("branch by", 0, 9, (x, v) -> x.branch(0, v, 1, 2));
        taken("branch to itself", () -> Programs.blocks(1), x -> x.branch(0, 9, 0, 0));
        for (int t = 0; t < 10; t++) {
            ValueMill x = Programs.blocks(3);
            x.op(0, 0, t, 1, 0);
            x.op(1, 0, 0, 11, 0);
            x.op(2, 0, 0, 12, 0);
            for (int by = 0; by < 10; by++) {
                x.branch(0, by, 1, 2);
                for (int stage = 0; stage <= 3; stage++) {
                    x.run(stage, 2, 2);
                    e.due("by " + by + " with 1 in " + t, x.value(), by == t ? 11 : 12);
                }
            }
        }
        e.about("An end by a temporary goes to the first block if it is not 0, else to the second.");
        for (int shown : new int[] {LEAST, LEAST + 1, -1, 0, 1, 2, 65536, MOST}) {
            ValueMill x = Programs.blocks(3);
            x.memory(0, shown);
            x.op(0, 16, 9, 0, 0);
            x.op(0, 0, 0, 12, 0);
            x.op(1, 0, 0, 11, 0);
            x.branch(0, 9, 1, 2);
            for (int stage = 0; stage <= 3; stage++) {
                x.run(stage, 2, 2);
                e.due("by " + shown, x.value(), shown == 0 ? 12 : 11);
            }
        }
    }

    private void retEnds() {
        e.about("or returns one (at first it returns temporary 0)");
        limits("ret of", 0, 9, (x, v) -> x.ret(0, v));
        for (int stage = 0; stage <= 3; stage++) {
            ValueMill x = Programs.blocks(2);
            for (int t = 0; t < 10; t++) {
                x.op(0, 0, t, 100 - t, 0);
            }
            x.jump(0, 1);
            for (int t = 0; t < 10; t++) {
                e.due("ret of " + t, x.ret(1, t), true);
                x.run(stage, 2, 2);
                e.due("temporary " + t + " at stage " + stage, x.value(), 100 - t);
            }
        }
    }

    private void memoryWords() {
        e.about("A word of the memory, at the beginning of runs. Answers true; false when there is none such.");
        limits("memory", 0, 31, (x, v) -> x.memory(v, 77));
        e.about("MEMORY are 32 words, 0 .. 31, with what was told of them");
        for (int stage = 0; stage <= 3; stage++) {
            for (int value : new int[] {LEAST, -1, 0, 1, MOST}) {
                ValueMill x = Programs.blocks(1);
                for (int i = 0; i < 32; i++) {
                    e.due("memory " + i, x.memory(i, i), true);
                }
                x.memory(0, value);
                x.memory(31, value);
                x.run(stage, 2, 1);
                for (int i = 0; i < 32; i++) {
                    e.due("word " + i + " at stage " + stage, x.word(i), i % 31 == 0 ? value : i);
                }
            }
        }
    }

    private void runStages() {
        e.about("Runs at a stage, 0 .. 3");
        limits("run at stage", 0, 3, (x, v) -> x.run(v, 2, 9) != NONE);
    }

    private void runRegisters() {
        e.about("with so many registers (2 .. 8, at all stages");
        for (int stage = 0; stage <= 3; stage++) {
            int each = stage;
            limits("run at stage " + stage + " with registers", 2, 8, (x, v) -> x.run(each, v, 9) != NONE);
        }
    }

    private void runFuel() {
        e.about("and fuel (0 .. 500");
        for (int stage = 0; stage <= 3; stage++) {
            int each = stage;
            limits("run at stage " + stage + " with fuel", 0, 500, (x, v) -> x.run(each, 2, v) != NONE);
        }
    }

    private void runWithoutBlock() {
        e.about("NONE when there is no block, or these are not such.");
        for (int stage = 0; stage <= 3; stage++) {
            ValueMill x = new ValueMill();
            e.due("no block", x.run(stage, 2, 0), NONE);
            e.due("no block", x.run(stage, 8, 500), NONE);
            x.block();
            e.due("one block", x.run(stage, 8, 500), 0);
        }
    }

    private void lastOf512() {
        e.about("An object is used for at most 512 calls after it has been made");
        ValueMill x = Programs.blocks(2);
        x.op(0, 18, 0, 0, 1);
        x.jump(0, 0);
        for (int call = 5; call <= 511; call++) {
            e.due("call " + call, x.run(call % 4, 2 + call % 7, 500), 3);
        }
        e.due("the 512th", x.calls(), 500);
        ValueMill y = Programs.blocks(10);
        for (int call = 11; call <= 511; call++) {
            e.due("call " + call, y.op(call % 10, 0, 0, call, 0), call <= 130);
        }
        e.due("the 512th", y.run(3, 2, 1), 0);
        ValueMill z = Programs.blocks(2);
        for (int call = 3; call <= 510; call++) {
            e.due("call " + call, z.jump(0, call % 2), true);
        }
        e.due("the 511th", z.ret(0, 1), true);
        e.due("the 512th", z.order(1), NONE);
    }
}
