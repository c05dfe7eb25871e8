/** One method for each promise of the document: ordinary inputs, the edges it names, wrong inputs. */
public final class PromisesTest {
    private static final int LEAST = Integer.MIN_VALUE;
    private static final int MOST = Integer.MAX_VALUE;
    private static final int NONE = ValueMill.NONE;

    private final Expect e = new Expect();

    public static void main(String[] args) {
        PromisesTest test = new PromisesTest();
        test.promise1NewObject();
        test.promise2Block();
        test.promise3OpTaken();
        test.promise3OpRefused();
        test.promise3OpTwelve();
        test.promise4Jump();
        test.promise5Branch();
        test.promise6Ret();
        test.promise7Memory();
        test.promise8RunRefused();
        test.promise8RunEndings();
        test.promise8RunFuel();
        test.promise8RunSwaps();
        test.promise8RunFourSwaps();
        test.promise8RunAfterChanges();
        test.promise9Value();
        test.promise10Entered();
        test.promise11Word();
        test.promise12Calls();
        test.promise13Call();
        test.promise14Order();
        test.promise15Nearest();
        test.promise16Frontier();
        test.promise17Live();
        test.promise18Phi();
        test.promise19Depth();
        test.e.finish();
    }

    /** A run at every stage and with every number of registers must end so, and return so. */
    private void everyRun(String what, ValueMill x, int fuel, int ending, int value) {
        for (int stage = 0; stage <= 3; stage++) {
            for (int registers = 2; registers <= 8; registers++) {
                String run = what + " at stage " + stage + " with " + registers;
                e.due(run, x.run(stage, registers, fuel), ending);
                e.due(run + ": value()", x.value(), value);
            }
        }
    }

    private void promise1NewObject() {
        e.about("No blocks; memory of 0.");
        ValueMill x = new ValueMill();
        e.due("NONE", ValueMill.NONE, -1);
        e.due("new: run", x.run(0, 2, 10), NONE);
        e.due("new: order", x.order(0), NONE);
        e.due("new: nearest", x.nearest(0), NONE);
        e.due("new: depth", x.depth(0), NONE);
        e.due("new: frontier", x.frontier(0, 0), false);
        e.due("new: live", x.live(0, 0), false);
        e.due("new: phi", x.phi(0, 0), false);
        e.due("new: op", x.op(0, 0, 0, 0, 0), false);
        e.due("new: jump", x.jump(0, 0), false);
        e.due("new: branch", x.branch(0, 0, 0, 0), false);
        e.due("new: ret", x.ret(0, 0), false);
        e.due("new: value", x.value(), 0);
        e.due("new: entered", x.entered(), 0);
        e.due("new: calls", x.calls(), 0);
        e.due("new: first block", x.block(), 0);
        everyRun("an empty block returns temporary 0", x, 1, 0, 0);
        for (int i = 0; i < 32; i++) {
            e.due("new: word " + i, x.word(i), 0);
        }
        ValueMill y = new ValueMill();
        e.due("objects are apart", y.run(0, 2, 1), NONE);
    }

    private void promise2Block() {
        e.about("One more block. Answers its number; NONE when there are 10.");
        ValueMill x = new ValueMill();
        for (int i = 0; i < 10; i++) {
            e.due("block " + i + " is not yet there", x.ret(i, 0), false);
            e.due("block()", x.block(), i);
            e.due("block " + i + " is there", x.ret(i, 0), true);
        }
        e.due("an 11th block", x.block(), NONE);
        e.due("a 12th block", x.block(), NONE);
        e.due("block 10 is not there", x.ret(10, 0), false);
    }

    private void promise3OpTaken() {
        e.about("One more operation of a block. Answers true");
        for (int kind = 0; kind <= 18; kind++) {
            ValueMill x = Programs.blocks(2);
            int d = kind == 17 ? 0 : 9;
            int b = kind == 0 || kind == 1 || kind == 16 ? 0 : 9;
            e.due("op of kind " + kind, x.op(1, kind, d, 9, b), true);
            e.due("op of kind " + kind + " with 0s", x.op(0, kind, 0, 0, 0), true);
        }
        ValueMill x = Programs.blocks(1);
        e.due("the least number", x.op(0, 0, 1, LEAST, 0), true);
        e.due("the most number", x.op(0, 0, 1, MOST, 0), true);
        x.ret(0, 1);
        everyRun("the last number", x, 1, 0, MOST);
    }

    private void promise3OpRefused() {
        e.about("false when there is no such block, it has 12, or kind, d, a, b are not such.");
        for (int kind = 0; kind <= 18; kind++) {
            ValueMill x = Programs.blocks(2);
            int d = kind == 17 ? 0 : 1;
            int b = kind == 0 || kind == 1 || kind == 16 ? 0 : 1;
            String op = "op of kind " + kind;
            for (int wrong : new int[] {-1, 10, LEAST, MOST}) {
                e.due(op + " with d " + wrong, x.op(0, kind, wrong, 1, b), false);
                e.due(op + " with a " + wrong, x.op(0, kind, d, wrong, b), kind == 0);
            }
            e.due(op + " with d 9", x.op(0, kind, 9, 1, b), kind != 17);
            for (int wrong : new int[] {-1, 10, LEAST, MOST, b == 0 ? 1 : 11}) {
                e.due(op + " with b " + wrong, x.op(0, kind, d, 1, wrong), false);
            }
            for (int wrong : new int[] {-1, 2, 10, LEAST, MOST}) {
                e.due(op + " in block " + wrong, x.op(wrong, kind, d, 1, b), false);
            }
        }
        ValueMill x = Programs.blocks(1);
        for (int kind : new int[] {-1, 19, 20, LEAST, MOST}) {
            e.due("kind " + kind, x.op(0, kind, 0, 0, 0), false);
        }
        x.op(0, 0, 0, 5, 0);
        x.op(0, 0, 0, 6, 1);
        x.op(0, 19, 0, 0, 0);
        everyRun("what was refused is not there", x, 1, 0, 5);
    }

    private void promise3OpTwelve() {
        e.about("it has 12");
        ValueMill x = Programs.blocks(3);
        x.op(1, 0, 1, 1, 0);
        for (int i = 0; i < 11; i++) {
            e.due("operation " + i, x.op(1, 2, 0, 0, 1), true);
        }
        e.due("a 13th operation", x.op(1, 2, 0, 0, 1), false);
        e.due("another block has room", x.op(2, 0, 0, 4, 0), true);
        x.jump(0, 1);
        everyRun("eleven times one more", x, 5, 0, 11);
    }

    private void promise4Jump() {
        e.about("A block's end goes to another one. Answers true; false when there are none such.");
        ValueMill x = Programs.blocks(3);
        for (int wrong : new int[] {-1, 3, 10, LEAST, MOST}) {
            e.due("jump from " + wrong, x.jump(wrong, 1), false);
            e.due("jump to " + wrong, x.jump(0, wrong), false);
        }
        x.op(0, 0, 0, 1, 0);
        x.op(1, 0, 0, 2, 0);
        x.op(2, 0, 0, 3, 0);
        everyRun("refused jumps leave the end", x, 9, 0, 1);
        e.due("jump to 2", x.jump(0, 2), true);
        everyRun("goes to 2", x, 9, 0, 3);
        e.due("jump to 1", x.jump(0, 1), true);
        everyRun("goes to 1", x, 9, 0, 2);
        e.due("jump to itself", x.jump(1, 1), true);
        everyRun("goes round", x, 9, 3, 0);
        e.due("entered", x.entered(), 9);
        e.due("jump to the entry", x.jump(1, 0), true);
        everyRun("goes round by the entry", x, 500, 3, 0);
    }

    private void promise5Branch() {
        e.about("A block's end goes by a temporary. Answers true, or false.");
        ValueMill x = Programs.blocks(3);
        for (int wrong : new int[] {-1, 3, 10, LEAST, MOST}) {
            e.due("branch from " + wrong, x.branch(wrong, 1, 1, 1), false);
            e.due("branch yes " + wrong, x.branch(0, 1, wrong, 1), false);
            e.due("branch no " + wrong, x.branch(0, 1, 1, wrong), false);
        }
        for (int wrong : new int[] {-1, 10, LEAST, MOST}) {
            e.due("branch by " + wrong, x.branch(0, wrong, 1, 2), false);
        }
        x.op(0, 16, 9, 0, 0);
        x.op(1, 0, 0, 11, 0);
        x.op(2, 0, 0, 12, 0);
        everyRun("refused branches leave the end", x, 9, 0, 0);
        e.due("entered", x.entered(), 1);
        e.due("branch", x.branch(0, 9, 1, 2), true);
        everyRun("0 goes to the second", x, 9, 0, 12);
        for (int other : new int[] {1, -1, LEAST, 256}) {
            x.memory(0, other);
            everyRun(other + " goes to the first", x, 9, 0, 11);
        }
        e.due("branch to one block", x.branch(0, 9, 2, 2), true);
        everyRun("both go to one", x, 9, 0, 12);
    }

    private void promise6Ret() {
        e.about("A block's end returns a temporary. Answers true, or false.");
        ValueMill x = Programs.blocks(2);
        x.op(0, 0, 0, 3, 0);
        x.op(0, 0, 9, 4, 0);
        everyRun("at first temporary 0 is returned", x, 9, 0, 3);
        for (int wrong : new int[] {-1, 10, LEAST, MOST}) {
            e.due("ret of " + wrong, x.ret(0, wrong), false);
            e.due("ret in " + wrong, x.ret(wrong, 9), false);
        }
        e.due("ret in a block that is not there", x.ret(2, 9), false);
        everyRun("refused rets leave the end", x, 9, 0, 3);
        e.due("ret", x.ret(0, 9), true);
        everyRun("temporary 9", x, 9, 0, 4);
        x.jump(0, 1);
        e.due("ret instead of the jump", x.ret(0, 0), true);
        everyRun("temporary 0 again", x, 9, 0, 3);
        e.due("entered", x.entered(), 1);
        e.due("the edge is gone", x.order(1), NONE);
    }

    private void promise7Memory() {
        e.about("A word of the memory, at the beginning of runs. Answers true; false when there is none such.");
        ValueMill x = Programs.blocks(1);
        for (int wrong : new int[] {-1, 32, LEAST, MOST}) {
            e.due("memory " + wrong, x.memory(wrong, 1), false);
        }
        for (int i = 0; i < 32; i++) {
            e.due("memory " + i, x.memory(i, i * i - 100), true);
        }
        e.due("no run yet", x.word(3), 0);
        x.op(0, 0, 1, 7, 0);
        x.op(0, 16, 0, 1, 0);
        x.op(0, 17, 0, 1, 1);
        everyRun("word 7 as told", x, 1, 0, -51);
        everyRun("what a run wrote is not told to the next", x, 1, 0, -51);
        for (int i = 0; i < 32; i++) {
            e.due("word " + i, x.word(i), i == 7 ? 7 : i * i - 100);
        }
        e.due("told anew", x.memory(7, LEAST), true);
        everyRun("word 7 as told anew", x, 1, 0, LEAST);
    }

    private void promise8RunRefused() {
        e.about("NONE when there is no block, or these are not such.");
        ValueMill x = Programs.blocks(1);
        x.op(0, 0, 1, 5, 0);
        x.op(0, 18, 2, 1, 3);
        x.op(0, 17, 0, 1, 1);
        x.ret(0, 2);
        e.due("a run", x.run(0, 2, 9), 0);
        int[][] wrong = {
            {-1, 2, 9}, {4, 2, 9}, {LEAST, 2, 9}, {MOST, 2, 9},
            {0, 1, 9}, {0, 9, 9}, {1, 1, 9}, {2, 9, 9}, {3, 1, 9}, {3, 9, 9}, {3, LEAST, 9}, {3, MOST, 9},
            {0, 2, -1}, {0, 2, 501}, {3, 2, LEAST}, {3, 2, MOST},
        };
        x.memory(5, 77);
        x.op(0, 0, 2, 1, 0);
        for (int[] args : wrong) {
            e.due("run(" + args[0] + ", " + args[1] + ", " + args[2] + ")", x.run(args[0], args[1], args[2]), NONE);
            e.due("value stays", x.value(), 158);
            e.due("entered stays", x.entered(), 1);
            e.due("calls stay", x.calls(), 1);
            e.due("call stays", x.call(0, 2), 158);
            e.due("word stays", x.word(5), 5);
        }
        everyRun("the widest fuel", x, 500, 0, 1);
    }

    private void promise8RunEndings() {
        e.about("Answers how it ended: 0 returned, 1 DIVISION, 2 ADDRESS, 3 FUEL");
        ValueMill x = Programs.blocks(2);
        x.op(0, 0, 1, 31, 0);
        x.op(0, 0, 2, 9, 0);
        x.op(0, 17, 0, 2, 1);
        x.op(0, 18, 3, 2, 4);
        x.jump(0, 1);
        x.op(1, 16, 4, 5, 0);
        x.op(1, 17, 0, 1, 6);
        x.op(1, 18, 3, 1, 4);
        x.ret(1, 3);
        everyRun("returned", x, 2, 0, 31 * 31 + 4 + 7);
        for (int address : new int[] {-1, 32, LEAST, MOST}) {
            ending(5, address, 2, 31);
            ending(6, address, 2, 0);
        }
        ValueMill y = Programs.blocks(1);
        y.op(0, 18, 1, 1, 0);
        y.op(0, 5, 2, 1, 0);
        y.op(0, 18, 1, 1, 0);
        everyRun("unused division ends all the same", y, 9, 1, 0);
        e.due("the call before it", y.calls(), 1);
        ValueMill z = Programs.blocks(1);
        z.op(0, 0, 1, 32, 0);
        z.op(0, 16, 1, 1, 0);
        z.op(0, 0, 1, 4, 0);
        z.ret(0, 1);
        everyRun("an unused word that there is not ends all the same", z, 9, 2, 0);
    }

    /** Temporary 5 is read from, 6 written to, in a second block; the first wrote 9 to word 31. */
    private void ending(int temp, int address, int ending, int lastWord) {
        ValueMill x = Programs.blocks(2);
        x.op(0, 0, temp, address, 0);
        x.op(0, 0, 1, 31, 0);
        x.op(0, 17, 0, 1, 1);
        x.op(0, 18, 3, 1, 4);
        x.jump(0, 1);
        x.op(1, 16, 4, 5, 0);
        x.op(1, 17, 0, 5, 1);
        x.op(1, 17, 0, 1, 6);
        x.op(1, 18, 3, 1, 4);
        everyRun("address " + address + " in " + temp, x, 9, ending, 0);
        e.due("entered before " + address, x.entered(), 2);
        e.due("calls before " + address, x.calls(), 1);
        e.due("word 31 before " + address, x.word(31), lastWord);
    }

    private void promise8RunFuel() {
        e.about("blocks are entered, and fuel taken, at each stage as at stage 0");
        ValueMill x = Programs.countdown(4);
        everyRun("no fuel", x, 0, 3, 0);
        e.due("none entered", x.entered(), 0);
        e.due("no call", x.calls(), 0);
        everyRun("one too few", x, 10, 3, 0);
        e.due("entered with 10", x.entered(), 10);
        e.due("calls with 10", x.calls(), 4);
        everyRun("just enough", x, 11, 0, 4);
        e.due("entered with 11", x.entered(), 11);
        everyRun("more than enough", x, 12, 0, 4);
        e.due("entered with 12", x.entered(), 11);
    }

    /** Values that change places on the way round: what edges carry must be carried at one time. */
    private void promise8RunSwaps() {
        e.about("each stage does the same");
        ValueMill x = Programs.blocks(3);
        for (int t = 0; t < 8; t++) {
            x.op(0, 0, t, t + 1, 0);
        }
        x.op(0, 0, 8, 5, 0);
        x.jump(0, 1);
        x.op(1, 1, 9, 0, 0);
        for (int t = 0; t < 7; t++) {
            x.op(1, 1, t, t + 1, 0);
        }
        x.op(1, 1, 7, 9, 0);
        x.op(1, 0, 9, 1, 0);
        x.op(1, 3, 8, 8, 9);
        x.branch(1, 8, 1, 2);
        x.op(2, 0, 9, 10, 0);
        for (int t = 1; t < 8; t++) {
            x.op(2, 4, 0, 0, 9);
            if (t < 5) {
                x.op(2, 2, 0, 0, t);
            }
        }
        everyRun("a ring of eight", x, 20, 0, 67812000);
        ValueMill y = Programs.blocks(3);
        y.op(0, 0, 0, 1, 0);
        y.op(0, 0, 1, 2, 0);
        y.op(0, 0, 2, 3, 0);
        y.op(0, 0, 4, 1, 0);
        y.jump(0, 1);
        y.op(1, 1, 3, 0, 0);
        y.op(1, 1, 0, 1, 0);
        y.op(1, 1, 1, 3, 0);
        y.op(1, 3, 2, 2, 4);
        y.branch(1, 2, 1, 2);
        y.op(2, 3, 0, 0, 1);
        everyRun("three swaps", y, 20, 0, 1);
    }

    /** As many rings as a block's operations can make, beside a count that goes round with them. */
    private void promise8RunFourSwaps() {
        e.about("each stage does the same");
        ValueMill x = Programs.row(4);
        for (int t = 0; t < 8; t++) {
            x.op(0, 0, t, t + 1, 0);
        }
        x.op(0, 0, 8, 3, 0);
        for (int t = 0; t < 8; t += 2) {
            x.op(1, 1, 9, t, 0);
            x.op(1, 1, t, t + 1, 0);
            x.op(1, 1, t + 1, 9, 0);
        }
        x.op(2, 0, 9, 1, 0);
        x.op(2, 3, 8, 8, 9);
        x.branch(2, 8, 1, 3);
        for (int t = 0; t < 8; t++) {
            x.op(3, 18, 9, t, 0);
        }
        for (int stage = 0; stage <= 3; stage++) {
            for (int registers = 2; registers <= 8; registers += 2) {
                e.due("four swaps, three times", x.run(stage, registers, 20), 0);
                for (int t = 0; t < 8; t++) {
                    e.due("temporary " + t + " at stage " + stage, x.call(t, 1), t % 2 == 0 ? t + 2 : t);
                }
            }
        }
    }

    private void promise8RunAfterChanges() {
        e.about("Runs at a stage, 0 .. 3");
        ValueMill x = Programs.blocks(1);
        x.op(0, 0, 0, 3, 0);
        for (int stage = 0; stage <= 3; stage++) {
            x.run(stage, 4, 9);
            x.op(0, 2, 0, 0, 0);
            e.due("a new operation at stage " + stage, x.run(stage, 4, 9), 0);
            e.due("is done", x.value(), 6 << stage);
        }
        e.due("stages in turn", x.run(1, 4, 9), 0);
        x.ret(0, 1);
        e.due("a new end", x.run(1, 4, 9), 0);
        e.due("returns temporary 1", x.value(), 0);
        x.block();
        x.jump(0, 1);
        e.due("a new block", x.run(1, 4, 9), 0);
        e.due("is entered", x.entered(), 2);
        e.due("and returns", x.value(), 48);
        x.branch(0, 1, 0, 1);
        e.due("a branch", x.run(1, 4, 9), 0);
        e.due("goes the second way", x.entered(), 2);
        e.due("all at once", x.order(1), 1);
    }

    private void promise9Value() {
        e.about("What the latest run returned; 0 when it did not, or there was none.");
        ValueMill x = Programs.blocks(2);
        e.due("before a run", x.value(), 0);
        x.op(0, 0, 1, -9, 0);
        x.ret(0, 1);
        x.run(3, 2, 1);
        e.due("what was returned", x.value(), -9);
        x.ret(0, 2);
        x.op(0, 5, 1, 1, 3);
        e.due("stays", x.value(), -9);
        x.run(3, 2, 1);
        e.due("after DIVISION", x.value(), 0);
        ValueMill y = Programs.countdown(2);
        y.run(1, 2, 7);
        e.due("returned", y.value(), 2);
        y.run(1, 2, 6);
        e.due("after FUEL", y.value(), 0);
        y.run(1, 2, 7);
        y.op(3, 16, 0, 2, 0);
        y.op(0, 0, 2, -1, 0);
        y.jump(0, 3);
        y.run(2, 2, 6);
        e.due("after ADDRESS", y.value(), 0);
    }

    private void promise10Entered() {
        e.about("How many blocks it entered.");
        ValueMill x = Programs.countdown(3);
        e.due("before a run", x.entered(), 0);
        for (int stage = 0; stage <= 3; stage++) {
            for (int fuel = 0; fuel <= 12; fuel++) {
                x.run(stage, 2, fuel);
                e.due("entered at " + stage + " with " + fuel, x.entered(), Math.min(fuel, 9));
            }
        }
        x.jump(3, 3);
        x.run(2, 2, 500);
        e.due("entered with the widest fuel", x.entered(), 500);
        x.block();
        x.op(0, 0, 0, 1, 1);
        e.due("stays", x.entered(), 500);
    }

    private void promise11Word() {
        e.about("Word i of the memory behind it; 0 when there is none such, or was no run.");
        ValueMill x = Programs.blocks(1);
        x.memory(4, 44);
        e.due("before a run", x.word(4), 0);
        x.op(0, 0, 1, 4, 0);
        x.op(0, 0, 2, -6, 0);
        x.op(0, 17, 0, 2, 0);
        for (int stage = 0; stage <= 3; stage++) {
            x.run(stage, 2, 1);
            e.due("as told", x.word(4), 44);
            e.due("as written", x.word(0), -6);
            e.due("not touched", x.word(31), 0);
        }
        x.memory(4, 45);
        x.memory(0, 1);
        e.due("stays as told", x.word(4), 44);
        e.due("stays as written", x.word(0), -6);
        for (int wrong : new int[] {-1, 32, LEAST, MOST}) {
            e.due("word " + wrong, x.word(wrong), 0);
        }
        x.run(0, 2, 0);
        e.due("as told anew, with no fuel", x.word(4), 45);
        e.due("not written, with no fuel", x.word(0), 1);
    }

    private void promise12Calls() {
        e.about("How many outer calls it made.");
        ValueMill x = Programs.blocks(1);
        e.due("before a run", x.calls(), 0);
        for (int i = 0; i < 12; i++) {
            x.op(0, 18, 0, 0, i % 10);
        }
        x.jump(0, 0);
        for (int stage = 0; stage <= 3; stage++) {
            x.run(stage, 2, 500);
            e.due("calls at " + stage, x.calls(), 6000);
            x.run(stage, 2, 1);
            e.due("calls at " + stage, x.calls(), 12);
            x.run(stage, 2, 0);
            e.due("calls at " + stage, x.calls(), 0);
        }
    }

    private void promise13Call() {
        e.about("Of its k-th outer call (of the first 200): what = 0 the number, 1 what it was called "
                + "with, 2 what came of it; 0 when there is none such.");
        ValueMill x = Programs.blocks(2);
        e.due("before a run", x.call(0, 0), 0);
        x.op(0, 0, 1, MOST, 0);
        x.op(0, 18, 2, 1, 9);
        x.op(0, 18, 2, 2, 0);
        x.jump(0, 1);
        for (int i = 0; i < 9; i++) {
            x.op(1, 18, 2, 1, i);
        }
        x.jump(1, 1);
        for (int stage = 0; stage <= 3; stage++) {
            x.run(stage, 3, 100);
            e.due("calls", x.calls(), 2 + 9 * 99);
            e.due("number", x.call(0, 0), 9);
            e.due("with", x.call(0, 1), MOST);
            e.due("made", x.call(0, 2), MOST * 31 + 9);
            e.due("second number", x.call(1, 0), 0);
            e.due("second with", x.call(1, 1), MOST * 31 + 9);
            e.due("second made", x.call(1, 2), (MOST * 31 + 9) * 31 + 7);
            e.due("the last one's number", x.call(199, 0), 197 % 9);
            e.due("the last one's with", x.call(199, 1), MOST);
            e.due("the last one's made", x.call(199, 2), MOST * 31 + 197 % 9 + 7 * 199);
            for (int k : new int[] {-1, 200, 201, 892, LEAST, MOST}) {
                e.due("call " + k, x.call(k, 1), 0);
            }
            for (int what : new int[] {-1, 3, LEAST, MOST}) {
                e.due("what " + what, x.call(0, what), 0);
                e.due("what " + what, x.call(1, what), 0);
            }
        }
        x.run(0, 2, 1);
        e.due("the second of two", x.call(1, 1), MOST * 31 + 9);
        e.due("no third of two", x.call(2, 1), 0);
    }

    private void order(String what, ValueMill x, int... due) {
        for (int k = 0; k < due.length; k++) {
            e.due(what + ": order(" + k + ")", x.order(k), due[k]);
        }
        e.due(what + ": order ends", x.order(due.length), NONE);
        e.due(what + ": order(-1)", x.order(-1), NONE);
        e.due(what + ": order(LEAST)", x.order(LEAST), NONE);
        e.due(what + ": order(MOST)", x.order(MOST), NONE);
    }

    private void promise14Order() {
        e.about("The k-th block of the order; NONE when there is none such.");
        order("one block", Programs.blocks(3), 0);
        order("diamond", Programs.diamond(), 0, 2, 1, 3);
        ValueMill x = Programs.diamond();
        x.branch(0, 0, 2, 1);
        order("diamond, the other edge first", x, 0, 1, 2, 3);
        order("nested", Programs.nested(), 0, 1, 2, 3, 4, 5);
        order("crossed", Programs.crossed(), 0, 1, 2, 3);
        ValueMill y = Programs.blocks(10);
        for (int block = 0; block < 9; block++) {
            y.branch(block, 0, block + 1, 0);
        }
        order("a row of ten", y, 0, 1, 2, 3, 4, 5, 6, 7, 8, 9);
        y.jump(0, 9);
        y.jump(9, 5);
        order("a row with a skip", y, 0, 9, 5, 6, 7, 8);
        y.ret(0, 0);
        order("cut", y, 0);
    }

    private void nearest(String what, ValueMill x, int... due) {
        for (int block = 0; block < due.length; block++) {
            e.due(what + ": nearest(" + block + ")", x.nearest(block), due[block]);
        }
        for (int wrong : new int[] {-1, 10, LEAST, MOST}) {
            e.due(what + ": nearest(" + wrong + ")", x.nearest(wrong), NONE);
        }
    }

    private void promise15Nearest() {
        e.about("The nearest strict dominator; NONE when there is none, or no such block, or it is dead.");
        nearest("dead blocks", Programs.blocks(3), NONE, NONE, NONE, NONE);
        nearest("diamond", Programs.diamond(), NONE, 0, 0, 0, NONE, NONE);
        nearest("nested", Programs.nested(), NONE, 0, 1, 2, 3, 4, NONE);
        nearest("crossed", Programs.crossed(), NONE, 0, 0, 2, NONE);
        ValueMill x = Programs.nested();
        x.jump(5, 0);
        nearest("round the entry", x, NONE, 0, 1, 2, 3, 4, NONE);
        ValueMill y = Programs.blocks(2);
        y.branch(0, 3, 1, 1);
        nearest("both edges to one", y, NONE, 0, NONE);
        nearest("a row from the last", Programs.rowFromTheLast(), NONE, 2, 3, 4, 5, 6, 7, 8, 9, 0);
    }

    private void frontier(String what, ValueMill x, int block, int... due) {
        for (int c = -1; c <= 10; c++) {
            boolean in = false;
            for (int d : due) {
                in |= d == c;
            }
            e.due(what + ": frontier(" + block + ", " + c + ")", x.frontier(block, c), in);
        }
        e.due(what + ": frontier(" + block + ", LEAST)", x.frontier(block, LEAST), false);
        e.due(what + ": frontier(MOST, " + block + ")", x.frontier(MOST, block), false);
    }

    private void promise16Frontier() {
        e.about("Whether c is in the frontier of a block (neither of them dead); false when there are none such.");
        ValueMill x = Programs.diamond();
        frontier("diamond", x, 0);
        frontier("diamond", x, 1, 3);
        frontier("diamond", x, 2, 3);
        frontier("diamond", x, 3);
        frontier("diamond, dead", x, 4);
        frontier("diamond, not there", x, 5);
        frontier("diamond, not there", x, -1);
        ValueMill y = Programs.nested();
        frontier("nested", y, 0);
        frontier("nested", y, 1, 1);
        frontier("nested", y, 2, 1, 2);
        frontier("nested", y, 3, 1, 2);
        frontier("nested", y, 4, 1);
        frontier("nested", y, 5);
        y.jump(5, 0);
        frontier("round the entry", y, 0, 0);
        frontier("round the entry", y, 3, 0, 1, 2);
        ValueMill z = Programs.crossed();
        frontier("crossed", z, 1, 2);
        frontier("crossed", z, 2, 1);
        z.jump(2, 2);
        frontier("crossed, itself", z, 2, 2);
    }

    private void live(String what, ValueMill x, int t, int... due) {
        for (int block = -1; block <= 10; block++) {
            boolean in = false;
            for (int d : due) {
                in |= d == block;
            }
            e.due(what + ": live(" + block + ", " + t + ")", x.live(block, t), in);
        }
    }

    private void promise17Live() {
        e.about("Whether a temporary is live in a block, be it dead or not (ways go along all edges); "
                + "false when there are none such.");
        ValueMill x = Programs.diamond();
        x.op(1, 0, 5, 1, 0);
        x.ret(3, 5);
        live("set on one side", x, 5, 0, 2, 3, 4);
        live("asked at the branch", x, 0, 0);
        x.op(0, 2, 5, 5, 6);
        live("used before it becomes", x, 5, 0, 2, 3, 4);
        live("the second one", x, 6, 0);
        x.op(4, 1, 5, 7, 0);
        live("set in a dead one", x, 5, 0, 2, 3);
        live("used in a dead one", x, 7, 4);
        for (int wrong : new int[] {-1, 10, LEAST, MOST}) {
            e.due("live of " + wrong, x.live(0, wrong), false);
            e.due("live in " + wrong, x.live(wrong, 0), false);
        }
        ValueMill y = Programs.nested();
        y.op(1, 18, 3, 2, 7);
        y.op(4, 17, 0, 3, 4);
        y.op(0, 16, 3, 8, 0);
        live("a call's number is none", y, 7);
        live("a call's a", y, 2, 0, 1, 2, 3, 4);
        live("what is written", y, 3, 2, 3, 4);
        live("where to is written", y, 4, 0, 1, 2, 3, 4);
        live("where from is read", y, 8, 0);
        live("a write's d is none", y, 0, 0, 1, 2, 3, 4, 5);
        ValueMill z = Programs.blocks(2);
        z.op(0, 0, 1, 9, 0);
        z.op(0, 0, 0, 9, 0);
        z.jump(0, 1);
        z.ret(1, 0);
        live("a number is no temporary", z, 9);
        live("returned", z, 0, 1);
        z.op(1, 1, 0, 0, 0);
        live("becomes itself", z, 0, 1);
        z.jump(1, 0);
        z.branch(0, 9, 1, 1);
        live("asked, though both are one", z, 9, 0, 1);
        live("nothing of a block to come", z, 0, 1);
        z.block();
        live("a new block returns temporary 0", z, 0, 1, 2);
    }

    private void phi(String what, ValueMill x, int t, int... due) {
        for (int block = -1; block <= 10; block++) {
            boolean in = false;
            for (int d : due) {
                in |= d == block;
            }
            e.due(what + ": phi(" + block + ", " + t + ")", x.phi(block, t), in);
        }
    }

    private void promise18Phi() {
        e.about("Whether a phi of a temporary stands in a block; likewise.");
        ValueMill x = Programs.diamond();
        phi("nowhere made", x, 0);
        x.op(1, 0, 5, 1, 0);
        phi("made but not live", x, 5);
        x.ret(3, 5);
        phi("made on one side", x, 5, 3);
        phi("returned no more", x, 0);
        x.op(4, 0, 6, 1, 0);
        x.op(3, 2, 6, 6, 6);
        phi("made in a dead one", x, 6);
        x.op(3, 17, 0, 0, 7);
        x.op(1, 17, 0, 0, 0);
        phi("a write makes nothing", x, 0);
        for (int wrong : new int[] {-1, 10, LEAST, MOST}) {
            e.due("phi of " + wrong, x.phi(3, wrong), false);
            e.due("phi in " + wrong, x.phi(wrong, 5), false);
        }
        ValueMill y = Programs.nested();
        y.op(3, 2, 1, 1, 2);
        y.ret(5, 1);
        phi("made in the inner loop", y, 1, 1, 2);
        phi("not made in the loops", y, 2);
        y.jump(5, 0);
        phi("round the entry, by its own beginning", y, 2, 0);
        phi("round the entry", y, 1, 0, 1, 2);
        ValueMill z = Programs.blocks(4);
        z.branch(0, 0, 1, 3);
        z.branch(1, 0, 2, 3);
        z.jump(2, 3);
        z.op(2, 0, 4, 1, 0);
        z.ret(3, 4);
        phi("through one frontier", z, 4, 3);
        ValueMill w = Programs.blocks(6);
        w.branch(0, 0, 1, 4);
        w.branch(1, 0, 2, 3);
        w.jump(2, 3);
        w.jump(3, 5);
        w.jump(4, 5);
        w.op(2, 0, 4, 1, 0);
        w.ret(5, 4);
        phi("through a phi's own frontier", w, 4, 3, 5);
    }

    private void depth(String what, ValueMill x, int... due) {
        for (int block = 0; block < due.length; block++) {
            e.due(what + ": depth(" + block + ")", x.depth(block), due[block]);
        }
        for (int wrong : new int[] {-1, 10, LEAST, MOST}) {
            e.due(what + ": depth(" + wrong + ")", x.depth(wrong), NONE);
        }
    }

    private void promise19Depth() {
        e.about("How many loops a block is in; NONE when there is no such block, or it is dead.");
        depth("diamond", Programs.diamond(), 0, 0, 0, 0, NONE, NONE);
        ValueMill x = Programs.nested();
        depth("nested", x, 0, 1, 2, 2, 1, 0, NONE);
        x.jump(5, 0);
        depth("round the entry", x, 1, 2, 3, 3, 2, 1, NONE);
        depth("crossed has no head", Programs.crossed(), 0, 0, 0, 0, NONE);
        ValueMill y = Programs.blocks(3);
        y.branch(0, 0, 1, 2);
        y.branch(1, 0, 1, 0);
        depth("two edges back to two heads", y, 1, 2, 0, NONE);
        ValueMill z = Programs.blocks(4);
        z.jump(0, 1);
        z.branch(1, 0, 2, 3);
        z.jump(2, 1);
        z.jump(3, 1);
        depth("two ways back are one loop", z, 0, 1, 1, 1, NONE);
        ValueMill w = Programs.blocks(4);
        w.branch(0, 0, 1, 2);
        w.jump(1, 0);
        w.jump(3, 3);
        depth("a dead loop", w, 1, 1, 0, NONE, NONE);
        ValueMill v = Programs.blocks(10);
        for (int block = 0; block < 9; block++) {
            v.branch(block, 0, block + 1, block);
        }
        v.branch(9, 0, 0, 9);
        depth("ten loops in a big one", v, 1, 2, 2, 2, 2, 2, 2, 2, 2, 2);
        for (int block = 0; block < 9; block++) {
            v.jump(block, block + 1);
        }
        v.jump(9, 0);
        depth("one big one", v, 1, 1, 1, 1, 1, 1, 1, 1, 1, 1);
    }
}
