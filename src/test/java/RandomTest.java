import java.util.Random;

/**
 * Programs drawn from fixed seeds, told to a ValueMill and to the Model alike: every answer of
 * either must be the other's, at every stage and with every number of registers.
 */
public final class RandomTest {
    private static final int PROGRAMS = 4000;
    private static final int CALLS = 450;

    private final Expect expect = new Expect();
    private final int[] endings = new int[5];
    private Random random;
    private Drawer drawer;
    private ValueMill mill;
    private Model model;
    private int seed;
    private int made;

    public static void main(String[] args) {
        RandomTest test = new RandomTest();
        for (int seed = 0; seed < PROGRAMS && test.expect.wrong() < 20; seed++) {
            test.runSeed(seed);
        }
        for (int ending = 0; ending < 4; ending++) {
            test.expect.due("some runs end with " + ending, test.endings[ending + 1] > PROGRAMS, true);
        }
        test.expect.finish();
    }

    private void runSeed(int newSeed) {
        seed = newSeed;
        random = new Random(seed);
        mill = new ValueMill();
        model = new Model();
        made = 0;
        int blocks = 1 + random.nextInt(10);
        drawer = new Drawer(random, 2 + random.nextInt(9), blocks);
        for (int i = 0; i < blocks; i++) {
            made++;
            due("block()", mill.block(), model.block());
        }
        build(blocks, 1 + random.nextInt(12));
        runAll();
        look(blocks);
        while (made < CALLS) {
            change(blocks);
            runAll();
        }
        look(blocks);
    }

    private void due(String call, long got, long want) {
        if (got != want) {
            expect.due("seed " + seed + ": " + call, got, want);
        } else {
            expect.due(call, got, want);
        }
    }

    private void due(String call, boolean got, boolean want) {
        due(call, got ? 1 : 0, want ? 1 : 0);
    }

    private void build(int blocks, int most) {
        for (int block = 0; block < blocks; block++) {
            int count = random.nextInt(most + 1);
            for (int i = 0; i < count && made < 200; i++) {
                addOp(block);
            }
            setEnd(block);
        }
        for (int i = 0; i < 4; i++) {
            int word = random.nextInt(34) - 1;
            int v = drawer.number();
            made++;
            due("memory", mill.memory(word, v), model.memory(word, v));
        }
    }

    private void addOp(int block) {
        Drawer.Op op = drawer.op(block);
        made++;
        due(op.toString(), mill.op(block, op.kind(), op.d(), op.a(), op.b()),
                model.op(block, op.kind(), op.d(), op.a(), op.b()));
    }

    private void setEnd(int block) {
        Drawer.End end = drawer.end(block);
        made++;
        if (end.how() == Drawer.JUMP) {
            due(end.toString(), mill.jump(block, end.yes()), model.jump(block, end.yes()));
        } else if (end.how() == Drawer.BRANCH) {
            due(end.toString(), mill.branch(block, end.t(), end.yes(), end.no()),
                    model.branch(block, end.t(), end.yes(), end.no()));
        } else {
            due(end.toString(), mill.ret(block, end.t()), model.ret(block, end.t()));
        }
    }

    private void change(int blocks) {
        for (int i = 0; i < 3; i++) {
            int block = random.nextInt(blocks);
            if (random.nextBoolean()) {
                addOp(block);
            } else {
                setEnd(block);
            }
        }
    }

    private void runAll() {
        int fuel = random.nextInt(20) == 0 ? 500 : random.nextInt(60);
        runOnce(0, 2, fuel);
        runOnce(1, 2, fuel);
        runOnce(2, 2, fuel);
        runOnce(3, 2, fuel);
        runOnce(3, 3 + random.nextInt(5), fuel);
        runOnce(3, 8, fuel);
        runOnce(random.nextInt(6) - 1, random.nextInt(12), random.nextInt(510) - 4);
    }

    private void runOnce(int stage, int registers, int fuel) {
        int ending = model.run(stage, registers, fuel);
        endings[ending + 1]++;
        due("run(" + stage + ", " + registers + ", " + fuel + ")", mill.run(stage, registers, fuel), ending);
        due("value()", mill.value(), model.value);
        due("entered()", mill.entered(), model.entered);
        due("calls()", mill.calls(), model.calls.size());
        made += 4;
        // More is asked than an object would be used for, so these do not count as calls here.
        for (int i = -1; i <= 32; i++) {
            due("word", mill.word(i), model.word(i));
        }
        for (int k = -1; k <= Math.min(201, model.calls.size()); k++) {
            for (int what = -1; what <= 3; what++) {
                due("call", mill.call(k, what), model.call(k, what));
            }
        }
    }

    private void look(int blocks) {
        for (int block = -1; block <= blocks; block++) {
            due("order(" + block + ")", mill.order(block), model.order(block));
            due("nearest(" + block + ")", mill.nearest(block), model.nearest(block));
            due("depth(" + block + ")", mill.depth(block), model.depth(block));
            for (int c = -1; c <= 10; c++) {
                due("frontier(" + block + ", " + c + ")", mill.frontier(block, c), model.frontier(block, c));
                due("live(" + block + ", " + c + ")", mill.live(block, c), model.live(block, c));
                due("phi(" + block + ", " + c + ")", mill.phi(block, c), model.phi(block, c));
            }
        }
    }
}
