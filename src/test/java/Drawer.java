import java.util.ArrayList;
import java.util.List;
import java.util.Random;

/** Draws operations and ends of programs: mostly such as are taken, now and then a wrong one. */
final class Drawer {
    static final int JUMP = 0;
    static final int BRANCH = 1;
    static final int RET = 2;

    record Op(int block, int kind, int d, int a, int b) {
        boolean tell(ValueMill mill) {
            return mill.op(block, kind, d, a, b);
        }
    }

    record End(int how, int block, int t, int yes, int no) {
        boolean tell(ValueMill mill) {
            return switch (how) {
                case JUMP -> mill.jump(block, yes);
                case BRANCH -> mill.branch(block, t, yes, no);
                default -> mill.ret(block, t);
            };
        }
    }

    /** A whole program that can be told again and again. */
    record Plan(int blocks, List<Op> ops, List<End> ends, int[] words) {
        ValueMill told() {
            ValueMill mill = Programs.blocks(blocks);
            for (Op op : ops) {
                op.tell(mill);
            }
            for (End end : ends) {
                end.tell(mill);
            }
            for (int i = 0; i < words.length; i++) {
                mill.memory(i, words[i]);
            }
            return mill;
        }
    }

    private final Random random;
    private final int temps;
    private final int blocks;

    Drawer(Random random, int temps, int blocks) {
        this.random = random;
        this.temps = temps;
        this.blocks = blocks;
    }

    static Plan plan(Random random) {
        int blocks = 1 + random.nextInt(10);
        Drawer drawer = new Drawer(random, 2 + random.nextInt(9), blocks);
        List<Op> ops = new ArrayList<>();
        List<End> ends = new ArrayList<>();
        for (int block = 0; block < blocks; block++) {
            for (int i = random.nextInt(13); i > 0; i--) {
                ops.add(drawer.op(block));
            }
            ends.add(drawer.end(block));
        }
        int[] words = new int[4];
        for (int i = 0; i < words.length; i++) {
            words[i] = drawer.number();
        }
        return new Plan(blocks, ops, ends, words);
    }

    Op op(int block) {
        if (random.nextInt(200) == 0) {
            return new Op(block, random.nextInt(23) - 2, oddTemp(), oddTemp(), oddTemp());
        }
        int kind = kind();
        int d = kind == 17 ? 0 : temp();
        int a = kind == 0 ? number() : temp();
        int b = kind == 0 || kind == 1 || kind == 16 ? 0 : kind == 18 ? random.nextInt(10) : temp();
        return new Op(block, kind, d, a, b);
    }

    End end(int block) {
        int how = random.nextInt(10);
        return new End(how < 3 ? JUMP : how < 9 ? BRANCH : RET, block, temp(), target(block), target(block));
    }

    int number() {
        switch (random.nextInt(8)) {
            case 0:
                return Integer.MIN_VALUE;
            case 1:
                return -1;
            case 2:
                return random.nextInt();
            default:
                return random.nextInt(12) - 1;
        }
    }

    private int kind() {
        int kind = random.nextInt(19);
        int likely = random.nextInt(10);
        if (likely < 3) {
            return 1;
        }
        if (likely < 5) {
            return 0;
        }
        if (likely == 5) {
            return 18;
        }
        // Most runs would end at once if what can end them were as frequent as the rest.
        boolean mayEnd = kind == 5 || kind == 6 || kind == 16 || kind == 17;
        return mayEnd && random.nextInt(3) != 0 ? 2 : kind;
    }

    private int temp() {
        return random.nextInt(400) == 0 ? oddTemp() : random.nextInt(temps);
    }

    private int oddTemp() {
        return random.nextInt(14) - 2;
    }

    /** Mostly a block close by, so that loops, joins and long ways all come up. */
    private int target(int block) {
        if (random.nextInt(300) == 0) {
            return random.nextInt(13) - 2;
        }
        int to = random.nextBoolean() ? random.nextInt(blocks) : block + random.nextInt(4) - 1;
        return Math.max(0, Math.min(blocks - 1, to));
    }
}
