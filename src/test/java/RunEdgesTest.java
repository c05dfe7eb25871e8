import java.util.function.Consumer;

/** Where runs begin and end, and what they tell: the boundary cases of promises 8 to 13. */
public final class RunEdgesTest {
    private static final int LEAST = Integer.MIN_VALUE;
    private static final int MOST = Integer.MAX_VALUE;
    private static final int NONE = ValueMill.NONE;
    private static final int RETURNED = 0;
    private static final int DIVISION = 1;
    private static final int ADDRESS = 2;
    private static final int FUEL = 3;
    private static final int[][] STAGES = {{0, 2}, {1, 2}, {2, 2}, {3, 2}, {3, 3}, {3, 8}};

    private final Expect e = new Expect();

    public static void main(String[] args) {
        RunEdgesTest test = new RunEdgesTest();
        test.beginsWithZeros();
        test.beginsWithMemoryAsTold();
        test.noFuel();
        test.entryTakesFuel();
        test.justEnoughFuel();
        test.mostFuel();
        test.otherEndsComeBeforeFuel();
        test.endsAtOnce();
        test.endsThoughUnused();
        test.endsOnlyWhereGone();
        test.endsInALaterRound();
        test.valueOfOtherEnds();
        test.valueIsAnyInt();
        test.nothingBeforeAny();
        test.nothingBehindRefused();
        test.toldStays();
        test.nextRunTellsAnew();
        test.wordLimits();
        test.callsCounted();
        test.callLimits();
        test.callOfFewer();
        test.registersMakeNoMatter();
        test.e.finish();
    }

    private int run(ValueMill x, int[] stage, int fuel) {
        return x.run(stage[0], stage[1], fuel);
    }

    private void due(String what, ValueMill x, int ending, int value, int entered, int calls) {
        e.due(what + ": value()", x.value(), ending == RETURNED ? value : 0);
        e.due(what + ": entered()", x.entered(), entered);
        e.due(what + ": calls()", x.calls(), calls);
    }

    private void beginsWithZeros() {
        e.about("A RUN begins at the entry with all temporaries 0");
        for (int[] stage : STAGES) {
            for (int t = 0; t < 10; t++) {
                ValueMill x = Programs.blocks(2);
                x.ret(0, t);
                e.due("ended", run(x, stage, 1), RETURNED);
                e.due("temporary " + t, x.value(), 0);
                x.jump(0, 1);
                x.op(1, 0, t, 5, 0);
                x.ret(1, t);
                run(x, stage, 2);
                e.due("temporary " + t + " behind", x.value(), 5);
                x.ret(0, t);
                run(x, stage, 2);
                e.due("temporary " + t + " in the next run", x.value(), 0);
            }
        }
        for (int[] stage : STAGES) {
            ValueMill x = Programs.blocks(2);
            x.op(0, 18, 1, 2, 0);
            x.op(0, 0, 2, 1, 0);
            x.op(0, 2, 3, 3, 2);
            x.branch(0, 1, 1, 0);
            x.ret(1, 3);
            run(x, stage, 5);
            e.due("the entry's own temporaries come back to it", x.call(1, 1), 1);
            e.due("and have begun with 0", x.call(0, 1), 0);
            e.due("the rounds", x.value(), 2);
        }
    }

    private void beginsWithMemoryAsTold() {
        e.about("and the memory as told");
        for (int[] stage : STAGES) {
            ValueMill x = Programs.blocks(1);
            x.memory(0, 4);
            x.memory(31, LEAST);
            x.op(0, 16, 1, 0, 0);
            x.op(0, 2, 1, 1, 1);
            x.op(0, 17, 0, 1, 0);
            x.ret(0, 1);
            for (int time = 0; time < 3; time++) {
                run(x, stage, 1);
                e.due("twice what was told", x.value(), 8);
                e.due("word 0", x.word(0), 8);
                e.due("word 31", x.word(31), LEAST);
            }
            x.memory(0, 5);
            x.memory(0, 6);
            run(x, stage, 1);
            e.due("twice what was told last", x.value(), 12);
        }
    }

    private void noFuel() {
        e.about("when none is left the run ends there: FUEL (with 0 at once)");
        for (int[] stage : STAGES) {
            ValueMill x = Programs.busy();
            e.due("with 0", run(x, stage, 0), FUEL);
            due("with 0", x, FUEL, 0, 0, 0);
            e.due("word 0 as told", x.word(0), 5);
            e.due("word 31 as told", x.word(31), -7);
            ValueMill y = Programs.blocks(1);
            y.op(0, 5, 0, 0, 0);
            e.due("before a division", run(y, stage, 0), FUEL);
            due("before a division", y, FUEL, 0, 0, 0);
        }
    }

    private void entryTakesFuel() {
        e.about("Entering a block, the entry too, takes 1 FUEL");
        for (int[] stage : STAGES) {
            ValueMill x = Programs.blocks(2);
            x.op(0, 0, 0, 6, 0);
            x.op(0, 18, 1, 0, 0);
            e.due("1 for one block", run(x, stage, 1), RETURNED);
            due("1 for one block", x, RETURNED, 6, 1, 1);
            x.jump(0, 1);
            e.due("1 for two blocks", run(x, stage, 1), FUEL);
            due("1 for two blocks", x, FUEL, 0, 1, 1);
            e.due("2 for two blocks", run(x, stage, 2), RETURNED);
            due("2 for two blocks", x, RETURNED, 6, 2, 1);
            x.jump(0, 0);
            e.due("the entry again", run(x, stage, 2), FUEL);
            due("the entry again", x, FUEL, 0, 2, 2);
        }
    }

    private void justEnoughFuel() {
        e.about("blocks are entered, and fuel taken, at each stage as at stage 0");
        for (int[] stage : STAGES) {
            ValueMill x = Programs.busy();
            for (int fuel = 0; fuel <= 20; fuel++) {
                boolean enough = fuel >= 18;
                e.due("with " + fuel, run(x, stage, fuel), enough ? RETURNED : FUEL);
                // Each round is 1 2 3 4 6, and its call is made in 2, the third block of the run.
                int calls = Math.min(3, (fuel + 2) / 5);
                due("with " + fuel, x, enough ? RETURNED : FUEL, 36, Math.min(fuel, 18), calls);
            }
        }
        for (int[] stage : STAGES) {
            ValueMill x = Programs.row(10);
            e.due("empty blocks, too few", run(x, stage, 9), FUEL);
            e.due("empty blocks, enough", run(x, stage, 10), RETURNED);
            e.due("empty blocks", x.entered(), 10);
            x.branch(0, 0, 5, 5);
            e.due("a branch to one block", run(x, stage, 6), RETURNED);
            e.due("a branch to one block", x.entered(), 6);
        }
    }

    private void mostFuel() {
        e.about("and fuel (0 .. 500");
        for (int[] stage : STAGES) {
            // Enters 3 + 2 * rounds, and one more where a block stands before the last.
            ValueMill x = Programs.countdown(248);
            x.block();
            x.branch(1, 1, 2, 4);
            x.jump(4, 3);
            e.due("500 blocks with 499", run(x, stage, 499), FUEL);
            due("500 blocks with 499", x, FUEL, 0, 499, 248);
            e.due("500 blocks with 500", run(x, stage, 500), RETURNED);
            due("500 blocks with 500", x, RETURNED, 248, 500, 248);
            ValueMill y = Programs.countdown(249);
            e.due("501 blocks with 500", run(y, stage, 500), FUEL);
            due("501 blocks with 500", y, FUEL, 0, 500, 249);
            e.due("501 is refused", run(y, stage, 501), NONE);
            due("501 is refused", y, FUEL, 0, 500, 249);
        }
    }

    private void otherEndsComeBeforeFuel() {
        e.about("Answers how it ended: 0 returned, 1 DIVISION, 2 ADDRESS, 3 FUEL");
        for (int[] stage : STAGES) {
            ValueMill x = Programs.row(2);
            x.op(1, 0, 1, -1, 0);
            e.due("returned with the last fuel", run(x, stage, 2), RETURNED);
            x.op(1, 16, 2, 1, 0);
            e.due("ADDRESS with the last fuel", run(x, stage, 2), ADDRESS);
            e.due("FUEL before it", run(x, stage, 1), FUEL);
            ValueMill y = Programs.row(2);
            y.op(1, 6, 1, 1, 1);
            y.op(1, 16, 2, 1, 0);
            e.due("DIVISION with the last fuel", run(y, stage, 2), DIVISION);
            e.due("entered before DIVISION", y.entered(), 2);
            e.due("FUEL before it", run(y, stage, 1), FUEL);
        }
    }

    /** Two calls and two writes, and between them an operation that ends the run, or not. */
    private static ValueMill withMiddle(int kind, int a, int b, int address) {
        ValueMill x = Programs.row(3);
        x.op(0, 0, 1, a, 0);
        x.op(0, 0, 2, b, 0);
        x.op(0, 0, 3, address, 0);
        x.op(1, 18, 4, 1, 8);
        x.op(1, 17, 0, 4, 5);
        x.op(1, kind, kind == 17 ? 0 : 6, kind == 16 ? 3 : 1, kind == 16 ? 0 : kind == 17 ? 3 : 2);
        x.op(1, 18, 4, 4, 9);
        x.op(1, 17, 0, 4, 5);
        x.ret(2, 4);
        return x;
    }

    private void endsAtOnce() {
        e.about("5 and 6 with b 0, or a the least int and b -1, end it: DIVISION");
        endsAtOnce(5, DIVISION);
        endsAtOnce(6, DIVISION);
        e.about("16 and 17 with a word that there is not: ADDRESS");
        endsAtOnce(16, ADDRESS);
        endsAtOnce(17, ADDRESS);
    }

    private void endsAtOnce(int kind, int ending) {
        for (int[] stage : STAGES) {
            for (int wrong : new int[] {-1, 32, LEAST, MOST}) {
                String what = "kind " + kind + " at stage " + stage[0];
                ValueMill x = withMiddle(kind, 2, 0, wrong);
                e.due(what, run(x, stage, 9), ending);
                due(what, x, ending, 0, 2, 1);
                e.due(what + ": word 0 as written before", x.word(0), 2 * 31 + 8);
                ValueMill y = withMiddle(kind, 2, 1, 31);
                e.due(what + " goes on", run(y, stage, 9), RETURNED);
                due(what + " goes on", y, RETURNED, 70 * 31 + 9 + 7, 3, 2);
            }
        }
    }

    private void endsThoughUnused() {
        e.about("each stage does the same");
        for (int[] stage : STAGES) {
            for (int kind : new int[] {5, 6, 16}) {
                ValueMill x = Programs.blocks(1);
                x.op(0, 0, 1, LEAST, 0);
                x.op(0, 0, 2, -1, 0);
                x.op(0, kind, 3, 1, kind == 16 ? 0 : 2);
                x.op(0, 0, 3, 4, 0);
                x.ret(0, 3);
                e.due("kind " + kind, run(x, stage, 1), kind == 16 ? ADDRESS : DIVISION);
            }
        }
    }

    private void endsOnlyWhereGone() {
        e.about("each stage does the same");
        for (int[] stage : STAGES) {
            ValueMill x = Programs.blocks(4);
            x.branch(0, 1, 1, 2);
            x.op(1, 5, 2, 1, 1);
            x.jump(1, 2);
            x.op(3, 6, 2, 1, 1);
            x.jump(3, 2);
            x.ret(2, 2);
            e.due("by the other edge", run(x, stage, 9), RETURNED);
            e.due("entered", x.entered(), 2);
            x.op(0, 0, 1, 1, 0);
            e.due("1 over 1", run(x, stage, 9), RETURNED);
            e.due("1 over 1", x.value(), 1);
        }
    }

    private void endsInALaterRound() {
        e.about("5 and 6 with b 0, or a the least int and b -1, end it: DIVISION");
        for (int[] stage : STAGES) {
            for (int kind = 5; kind <= 6; kind++) {
                ValueMill x = Programs.countdown(5);
                x.op(2, kind, 5, 2, 1);
                e.due("1 over 4, 3, 2, 1, 0", run(x, stage, 100), DIVISION);
                due("1 over 4, 3, 2, 1, 0", x, DIVISION, 0, 11, 5);
            }
        }
        e.about("16 and 17 with a word that there is not: ADDRESS");
        for (int[] stage : STAGES) {
            ValueMill y = Programs.countdown(3);
            y.op(2, 17, 0, 2, 6);
            y.op(2, 0, 7, 16, 0);
            y.op(2, 2, 6, 6, 7);
            e.due("words 0, 16, 32", run(y, stage, 100), ADDRESS);
            due("words 0, 16, 32", y, ADDRESS, 0, 7, 3);
            e.due("word 0", y.word(0), 1);
            e.due("word 16", y.word(16), 1);
        }
    }

    private void valueOfOtherEnds() {
        e.about("What the latest run returned; 0 when it did not, or there was none.");
        for (int[] stage : STAGES) {
            ValueMill x = Programs.blocks(1);
            x.op(0, 0, 0, -9, 0);
            run(x, stage, 1);
            e.due("returned", x.value(), -9);
            run(x, stage, 0);
            e.due("behind FUEL", x.value(), 0);
            run(x, stage, 1);
            x.op(0, 5, 1, 0, 2);
            run(x, stage, 1);
            e.due("behind DIVISION", x.value(), 0);
            ValueMill y = Programs.blocks(1);
            y.op(0, 0, 0, -9, 0);
            run(y, stage, 1);
            y.op(0, 16, 1, 0, 0);
            run(y, stage, 1);
            e.due("behind ADDRESS", y.value(), 0);
        }
    }

    private void valueIsAnyInt() {
        e.about("TEMPORARIES are 0 .. 9, all ints");
        for (int[] stage : STAGES) {
            for (int value : new int[] {LEAST, -3, -1, 0, 3, MOST}) {
                ValueMill x = Programs.blocks(1);
                x.memory(0, value);
                x.op(0, 16, 9, 0, 0);
                x.ret(0, 9);
                e.due("ended", run(x, stage, 1), RETURNED);
                e.due("returned", x.value(), value);
            }
        }
    }

    private void nothingBeforeAny() {
        e.about("it is 0 before any");
        int[] nothing = new int[View.TOLD.of(new ValueMill()).length];
        e.due("a new object", View.TOLD.of(new ValueMill()), nothing);
        e.due("a program", View.TOLD.of(Programs.busy()), nothing);
        ValueMill x = Programs.busy();
        for (int i = 0; i < 32; i++) {
            x.memory(i, 1 + i);
        }
        e.due("memory told", View.TOLD.of(x), nothing);
    }

    private void nothingBehindRefused() {
        e.about("A call that is refused changes nothing");
        int[] nothing = new int[View.TOLD.of(new ValueMill()).length];
        int[][] wrong = {{-1, 2, 9}, {4, 2, 9}, {0, 1, 9}, {3, 9, 9}, {1, 2, -1}, {2, 2, 501}};
        for (int[] args : wrong) {
            ValueMill x = Programs.busy();
            e.due("refused", x.run(args[0], args[1], args[2]), NONE);
            e.due("nothing told", View.TOLD.of(x), nothing);
        }
        ValueMill y = new ValueMill();
        y.memory(0, 4);
        e.due("no block", y.run(0, 2, 9), NONE);
        e.due("nothing told", View.TOLD.of(y), nothing);
    }

    private void toldStays() {
        e.about("What a run told stays until the next one that is not refused, whatever is changed");
        for (int stage = 0; stage <= 3; stage++) {
            int each = stage;
            stays("op", each, x -> x.op(7, 0, 4, 1, 0));
            stays("jump", each, x -> x.jump(0, 7));
            stays("branch", each, x -> x.branch(0, 1, 7, 7));
            stays("ret", each, x -> x.ret(7, 1));
            stays("memory", each, x -> {
                x.memory(0, 99);
                x.memory(2, 99);
                x.memory(31, 99);
            });
            stays("block", each, x -> x.block());
            stays("a refused stage", each, x -> x.run(4, 2, 9));
            stays("refused registers", each, x -> x.run(each, 9, 9));
            stays("refused fuel", each, x -> x.run(each, 2, 501));
            stays("looking", each, x -> View.SHAPE.of(x));
            stays("asking for what is not there", each, x -> x.word(32 + x.call(3, 3)));
        }
        ValueMill y = Programs.blocks(1);
        y.op(0, 0, 0, 3, 0);
        y.run(0, 2, 1);
        y.block();
        e.due("behind one more block", y.value(), 3);
    }

    private void stays(String what, int stage, Consumer<ValueMill> change) {
        ValueMill x = Programs.busyRun(stage);
        change.accept(x);
        e.due(what + " behind stage " + stage, View.TOLD.of(x), View.TOLD.of(Programs.busyRun(stage)));
        e.due(what + " behind stage " + stage + ": value()", x.value(), 36);
    }

    private void nextRunTellsAnew() {
        e.about("until the next one that is not refused");
        for (int[] stage : STAGES) {
            ValueMill x = Programs.busyRun(0);
            int[] first = View.TOLD.of(x);
            x.memory(0, 6);
            run(x, stage, 0);
            int[] none = new int[first.length];
            none[3] = 6;
            none[3 + 31] = -7;
            e.due("nothing but the memory with no fuel", View.TOLD.of(x), none);
            x.memory(0, 5);
            run(x, stage, 100);
            e.due("the same as before", View.TOLD.of(x), first);
        }
    }

    private void wordLimits() {
        e.about("Word i of the memory behind it; 0 when there is none such, or was no run.");
        for (int[] stage : STAGES) {
            ValueMill x = Programs.blocks(1);
            for (int i = 0; i < 32; i++) {
                x.memory(i, 1000 + i);
            }
            for (int i : new int[] {LEAST, -1, 0, 31, 32, MOST}) {
                e.due("no run: word " + i, x.word(i), 0);
            }
            run(x, stage, 1);
            for (int i : new int[] {LEAST, -32, -1, 32, 33, 64, MOST}) {
                e.due("word " + i, x.word(i), 0);
            }
            e.due("word 0", x.word(0), 1000);
            e.due("word 31", x.word(31), 1031);
        }
    }

    /** As many calls as told, in blocks of twelve at most; the numbers go 0 .. 9 in turn. */
    private static ValueMill calling(int calls) {
        ValueMill x = Programs.row(10);
        x.op(0, 0, 1, 1, 0);
        int made = 0;
        for (int block = 1; block < 10; block++) {
            for (int i = 0; i < 12 && made < calls; i++) {
                x.op(block, 18, 2, 1, made % 10);
                made++;
            }
        }
        return x;
    }

    private void callsCounted() {
        e.about("How many outer calls it made.");
        for (int[] stage : STAGES) {
            for (int calls : new int[] {0, 1, 2, 107, 108}) {
                ValueMill x = calling(calls);
                e.due("before any", x.calls(), 0);
                run(x, stage, 10);
                e.due("calls", x.calls(), calls);
            }
            ValueMill y = Programs.blocks(1);
            for (int i = 0; i < 12; i++) {
                y.op(0, 18, 0, 0, i % 10);
            }
            y.jump(0, 0);
            run(y, stage, 500);
            e.due("the most there can be", y.calls(), 6000);
            run(y, stage, 1);
            e.due("of the latest run", y.calls(), 12);
        }
    }

    /** Rounds with one call each, whose number is 5 and which is called with the rounds left. */
    private void callLimits() {
        e.about("Of its k-th outer call (of the first 200)");
        for (int[] stage : STAGES) {
            for (int calls : new int[] {1, 2, 199, 200, 201, 248}) {
                ValueMill x = Programs.countdown(calls);
                run(x, stage, 500);
                e.due("calls", x.calls(), calls);
                int kept = Math.min(200, calls);
                for (int k : new int[] {0, kept - 1}) {
                    int with = calls - 1 - k;
                    String what = "call " + k + " of " + calls;
                    e.due(what + ": number", x.call(k, 0), 5);
                    e.due(what + ": with", x.call(k, 1), with);
                    e.due(what + ": made", x.call(k, 2), with * 31 + 5 + 7 * k);
                }
                for (int k : new int[] {LEAST, -1, kept, kept + 1, 200, 201, MOST}) {
                    for (int what = 0; what <= 2; what++) {
                        e.due("call " + k + " of " + calls, x.call(k, what), 0);
                    }
                }
            }
        }
        e.about("what = 0 the number, 1 what it was called with, 2 what came of it; 0 when there is none such.");
        for (int what : new int[] {LEAST, -1, 3, 4, MOST}) {
            ValueMill x = Programs.countdown(200);
            x.run(0, 2, 500);
            for (int k : new int[] {0, 1, 2, 198, 199}) {
                e.due("what = " + what + " of call " + k, x.call(k, what), 0);
            }
        }
    }

    private void callOfFewer() {
        e.about("Of its k-th outer call (of the first 200)");
        for (int[] stage : STAGES) {
            ValueMill x = Programs.countdown(200);
            run(x, stage, 500);
            run(x, stage, 7);
            e.due("calls of the shorter run", x.calls(), 3);
            e.due("its third", x.call(2, 0), 5);
            e.due("no fourth", x.call(3, 0), 0);
            e.due("no 200th", x.call(199, 0), 0);
            run(x, stage, 0);
            e.due("no first", x.call(0, 0), 0);
            e.due("no first", x.call(0, 2), 0);
        }
    }

    private void registersMakeNoMatter() {
        e.about("(2 .. 8, at all stages, though of matter at stage 3 alone)");
        int[] due = View.TOLD.of(Programs.busyRun(0));
        for (int stage = 0; stage <= 3; stage++) {
            for (int registers = 2; registers <= 8; registers++) {
                ValueMill x = Programs.busy();
                e.due("ended", x.run(stage, registers, 100), RETURNED);
                e.due("stage " + stage + " with " + registers, View.TOLD.of(x), due);
            }
        }
        for (int from = 2; from <= 8; from++) {
            for (int to = 2; to <= 8; to++) {
                ValueMill x = Programs.busy();
                x.run(3, from, 100);
                x.run(3, to, 100);
                e.due("stage 3 with " + from + ", then " + to, View.TOLD.of(x), due);
            }
        }
    }
}
