import java.util.Random;

/**
 * Programs drawn from fixed seeds, told to a ValueMill and to the Model alike: every answer of
 * either must be the other's, at every stage and with every number of registers.
 */
public final class RandomTest {
    private static final int PROGRAMS = 6000;
    private static final int CALLS = 512;

    private final Expect expect = new Expect();
    private Random random;
    private ValueMill mill;
    private Model model;
    private int seed;
    private int made;
    private int temps;

    public static void main(String[] args) {
        RandomTest test = new RandomTest();
        for (int seed = 0; seed < PROGRAMS && test.expect.wrong() < 20; seed++) {
            test.runSeed(seed);
        }
        test.expect.finish();
    }

    private void runSeed(int newSeed) {
        seed = newSeed;
        random = new Random(seed);
        mill = new ValueMill();
        model = new Model();
        made = 0;
        temps = 2 + random.nextInt(9);
        int blocks = 1 + random.nextInt(10);
        for (int i = 0; i < blocks; i++) {
            made++;
            due("block()", mill.block(), model.block());
        }
        build(blocks, random.nextInt(13));
        runAll();
        look(blocks);
        while (made < CALLS - 60) {
            change(blocks);
            runAll();
        }
        look(blocks);
    }

    private void due(String call, long got, long want) {
        expect.due("seed " + seed + ": " + call, got, want);
    }

    private void due(String call, boolean got, boolean want) {
        expect.due("seed " + seed + ": " + call, got, want);
    }

    private void build(int blocks, int most) {
        for (int block = 0; block < blocks; block++) {
            int count = most == 0 ? 0 : random.nextInt(most + 1);
            for (int i = 0; i < count && made < 200; i++) {
                addOp(block);
            }
            setEnd(block, blocks);
        }
        for (int i = 0; i < 4; i++) {
            int word = random.nextInt(34) - 1;
            int v = number();
            made++;
            due("memory", mill.memory(word, v), model.memory(word, v));
        }
    }

    private int number() {
        switch (random.nextInt(8)) {
            case 0:
                return Integer.MIN_VALUE;
            case 1:
                return -1;
            case 2:
                return random.nextInt();
            default:
                return random.nextInt(12) - 1;
        }
    }

    private int temp() {
        return random.nextInt(400) == 0 ? random.nextInt(12) - 1 : random.nextInt(temps);
    }

    private void addOp(int block) {
        int kind = random.nextInt(19);
        int likely = random.nextInt(10);
        if (likely < 3) {
            kind = 1;
        } else if (likely < 5) {
            kind = 0;
        } else if (likely == 5) {
            kind = 18;
        } else if (kind == 5 || kind == 6 || kind == 16 || kind == 17) {
            // Most runs would end at once if these were as frequent as the others.
            kind = random.nextInt(5) == 0 ? kind : 2;
        }
        int d = kind == 17 ? 0 : temp();
        int a = kind == 0 ? number() : temp();
        int b = kind == 0 || kind == 1 || kind == 16 ? 0 : kind == 18 ? random.nextInt(10) : temp();
        if (random.nextInt(200) == 0) {
            d = random.nextInt(14) - 2;
            a = random.nextInt(14) - 2;
            b = random.nextInt(14) - 2;
            kind = random.nextInt(23) - 2;
        }
        made++;
        due("op(" + block + ", " + kind + ", " + d + ", " + a + ", " + b + ")",
                mill.op(block, kind, d, a, b), model.op(block, kind, d, a, b));
    }

    private void setEnd(int block, int blocks) {
        int a = near(block, blocks);
        int b = near(block, blocks);
        int t = temp();
        int how = random.nextInt(10);
        made++;
        if (how < 3) {
            due("jump(" + block + ", " + a + ")", mill.jump(block, a), model.jump(block, a));
        } else if (how < 9) {
            due("branch(" + block + ", " + t + ", " + a + ", " + b + ")",
                    mill.branch(block, t, a, b), model.branch(block, t, a, b));
        } else {
            due("ret(" + block + ", " + t + ")", mill.ret(block, t), model.ret(block, t));
        }
    }

    /** Mostly a block close by, so that loops, joins and long ways all come up. */
    private int near(int block, int blocks) {
        if (random.nextInt(300) == 0) {
            return random.nextInt(13) - 2;
        }
        int to = random.nextBoolean() ? random.nextInt(blocks) : block + random.nextInt(4) - 1;
        return Math.max(0, Math.min(blocks - 1, to));
    }

    private void change(int blocks) {
        for (int i = 0; i < 3; i++) {
            int block = random.nextInt(blocks);
            if (random.nextBoolean()) {
                addOp(block);
            } else {
                setEnd(block, blocks);
            }
        }
    }

    private void runAll() {
        int fuel = random.nextInt(20) == 0 ? 500 : random.nextInt(60);
        runOnce(0, 2, fuel);
        runOnce(1, 2, fuel);
        runOnce(2, 2, fuel);
        runOnce(3, 2, fuel);
        runOnce(3, 3 + random.nextInt(5), fuel);
        runOnce(3, 8, fuel);
        runOnce(random.nextInt(6) - 1, random.nextInt(12), random.nextInt(510) - 4);
    }

    private void runOnce(int stage, int registers, int fuel) {
        String run = "run(" + stage + ", " + registers + ", " + fuel + ")";
        due(run, mill.run(stage, registers, fuel), model.run(stage, registers, fuel));
        due(run + " value()", mill.value(), model.value);
        due(run + " entered()", mill.entered(), model.entered);
        due(run + " calls()", mill.calls(), model.calls.size());
        made += 4;
        // More is asked than an object would be used for, so these do not count as calls here.
        for (int i = -1; i <= 32; i++) {
            due(run + " word(" + i + ")", mill.word(i), model.word(i));
        }
        for (int k = -1; k <= Math.min(201, model.calls.size()); k++) {
            for (int what = -1; what <= 3; what++) {
                due(run + " call(" + k + ", " + what + ")", mill.call(k, what), model.call(k, what));
            }
        }
    }

    private void look(int blocks) {
        for (int block = -1; block <= blocks; block++) {
            due("order(" + block + ")", mill.order(block), model.order(block));
            due("nearest(" + block + ")", mill.nearest(block), model.nearest(block));
            due("depth(" + block + ")", mill.depth(block), model.depth(block));
            for (int c = -1; c <= 10; c++) {
                due("frontier(" + block + ", " + c + ")", mill.frontier(block, c), model.frontier(block, c));
                due("live(" + block + ", " + c + ")", mill.live(block, c), model.live(block, c));
                due("phi(" + block + ", " + c + ")", mill.phi(block, c), model.phi(block, c));
            }
        }
    }
}
