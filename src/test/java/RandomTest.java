import java.util.Random;

/**
 * Programs drawn from fixed seeds, told to a ValueMill and to the Model alike: every answer of
 * either must be the other's, at every stage and with every number of registers. No object is asked
 * more than the 512 times for which it is promised to answer.
 */
public final class RandomTest {
    private static final int PROGRAMS = 12000;
    private static final int MOST_CALLS = 512;
    private static final int MOST_TO_BUILD = 200;
    private static final int MOST_TO_CHANGE = 100;
    private static final int LOOKS = 100;

    private final Expect expect = new Expect();
    private final int[] endings = new int[5];
    private Random random;
    private Drawer drawer;
    private ValueMill mill;
    private Model model;
    private int seed;
    private int made;
    private int mostMade;

    public static void main(String[] args) {
        RandomTest test = new RandomTest();
        for (int seed = 0; seed < PROGRAMS && test.expect.wrong() < 20; seed++) {
            test.runSeed(seed);
        }
        for (int ending = 0; ending < 4; ending++) {
            test.expect.due("many runs end with " + ending, test.endings[ending + 1] > PROGRAMS / 4, true);
        }
        test.expect.due(test.mostMade + " calls are no more than 512", test.mostMade <= MOST_CALLS, true);
        test.expect.finish();
    }

    private void runSeed(int newSeed) {
        seed = newSeed;
        random = new Random(seed);
        mill = new ValueMill();
        model = new Model();
        made = 0;
        int blocks = 1 + random.nextInt(10);
        drawer = new Drawer(random, 2 + random.nextInt(9), blocks);
        for (int i = 0; i < blocks; i++) {
            due("block()", mill.block(), model.block());
        }
        build(blocks, 1 + random.nextInt(12));
        if (random.nextBoolean()) {
            look();
        }
        while (made < MOST_CALLS - LOOKS - MOST_TO_CHANGE) {
            runAll();
            change(blocks);
        }
        look();
        mostMade = Math.max(mostMade, made);
    }

    /** Each answer is that of one call. */
    private void due(String call, long got, long want) {
        made++;
        expect.due(got == want ? call : "seed " + seed + ": " + call, got, want);
    }

    private void due(String call, boolean got, boolean want) {
        due(call, got ? 1 : 0, want ? 1 : 0);
    }

    private void build(int blocks, int most) {
        for (int block = 0; block < blocks; block++) {
            int count = random.nextInt(most + 1);
            for (int i = 0; i < count && made < MOST_TO_BUILD; i++) {
                addOp(block);
            }
            setEnd(block);
        }
        for (int i = 0; i < 4; i++) {
            tellWord();
        }
    }

    private void tellWord() {
        int word = random.nextInt(34) - 1;
        int v = drawer.number();
        due("memory", mill.memory(word, v), model.memory(word, v));
    }

    private void addOp(int block) {
        Drawer.Op op = drawer.op(block);
        due(op.toString(), op.tell(mill), model.op(block, op.kind(), op.d(), op.a(), op.b()));
    }

    private void setEnd(int block) {
        Drawer.End end = drawer.end(block);
        boolean taken = switch (end.how()) {
            case Drawer.JUMP -> model.jump(block, end.yes());
            case Drawer.BRANCH -> model.branch(block, end.t(), end.yes(), end.no());
            default -> model.ret(block, end.t());
        };
        due(end.toString(), end.tell(mill), taken);
    }

    private void change(int blocks) {
        for (int i = 0; i < 3; i++) {
            int block = random.nextInt(blocks);
            int what = random.nextInt(9);
            if (what < 4) {
                addOp(block);
            } else if (what < 8) {
                setEnd(block);
            } else {
                tellWord();
            }
        }
        ask(4);
    }

    private void runAll() {
        int fuel = random.nextInt(20) == 0 ? 500 : random.nextInt(60);
        runOnce(0, 2, fuel);
        runOnce(1, 2, fuel);
        runOnce(2, 2, fuel);
        runOnce(3, 2, fuel);
        runOnce(3, 3 + random.nextInt(5), fuel);
        runOnce(3, 8, fuel);
        runOnce(random.nextInt(6) - 1, random.nextInt(12), random.nextInt(510) - 4);
    }

    private void runOnce(int stage, int registers, int fuel) {
        int ending = model.run(stage, registers, fuel);
        endings[ending + 1]++;
        due("run(" + stage + ", " + registers + ", " + fuel + ")", mill.run(stage, registers, fuel), ending);
        due("value()", mill.value(), model.value);
        due("entered()", mill.entered(), model.entered);
        due("calls()", mill.calls(), model.calls.size());
        ask(6);
    }

    /** Some words and outer calls of the latest run. */
    private void ask(int times) {
        for (int i = 0; i < times; i += 2) {
            int word = random.nextInt(34) - 1;
            due("word(" + word + ")", mill.word(word), model.word(word));
            int k = random.nextInt(Math.min(202, model.calls.size() + 2)) - 1;
            int what = random.nextInt(20) == 0 ? random.nextInt(5) - 1 : random.nextInt(3);
            due("call(" + k + ", " + what + ")", mill.call(k, what), model.call(k, what));
        }
    }

    private void look() {
        for (int i = 0; i < LOOKS; i++) {
            int block = random.nextInt(40) == 0 ? random.nextInt(12) - 1 : random.nextInt(model.ops.size());
            int c = random.nextInt(40) == 0 ? random.nextInt(12) - 1 : random.nextInt(10);
            lookOnce(random.nextInt(8), block, c);
        }
    }

    private void lookOnce(int what, int block, int c) {
        switch (what) {
            case 0 -> due("order(" + block + ")", mill.order(block), model.order(block));
            case 1 -> due("nearest(" + block + ")", mill.nearest(block), model.nearest(block));
            case 2 -> due("depth(" + block + ")", mill.depth(block), model.depth(block));
            case 3 -> due("live(" + block + ", " + c + ")", mill.live(block, c), model.live(block, c));
            case 4, 5 -> due("frontier(" + block + ", " + c + ")", mill.frontier(block, c), model.frontier(block, c));
            default -> due("phi(" + block + ", " + c + ")", mill.phi(block, c), model.phi(block, c));
        }
    }
}
