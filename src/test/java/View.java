import java.util.stream.IntStream;

/**
 * All that can be seen of an object, in three looks: each stays far below 512 calls, so that with
 * what told the program it is still within an object's use.
 */
enum View {
    /** What is answered about the blocks. */
    SHAPE {
        @Override
        int[] of(ValueMill x) {
            IntStream.Builder seen = IntStream.builder();
            for (int block = 0; block < 10; block++) {
                seen.add(x.order(block)).add(x.nearest(block)).add(x.depth(block));
                for (int other = 0; other < 10; other++) {
                    seen.add(bit(x.frontier(block, other)));
                    seen.add(bit(x.live(block, other)));
                    seen.add(bit(x.phi(block, other)));
                }
            }
            return seen.build().toArray();
        }
    },

    /** What the latest run told. */
    TOLD {
        @Override
        int[] of(ValueMill x) {
            IntStream.Builder seen = IntStream.builder();
            seen.add(x.value()).add(x.entered()).add(x.calls());
            addWords(seen, x);
            for (int k = 0; k < 20; k++) {
                seen.add(x.call(k, 0)).add(x.call(k, 1)).add(x.call(k, 2));
            }
            return seen.build().toArray();
        }
    },

    /** What runs, and calls that add, answer from here on; the first run leaves the memory as told. */
    AHEAD {
        @Override
        int[] of(ValueMill x) {
            IntStream.Builder seen = IntStream.builder();
            seen.add(x.run(0, 2, 0));
            addWords(seen, x);
            for (int stage = 3; stage >= 0; stage--) {
                seen.add(x.run(stage, 2, 40)).add(x.value()).add(x.entered()).add(x.calls());
            }
            addWords(seen, x);
            for (int block = 0; block < 10; block++) {
                seen.add(roomIn(x, block));
            }
            int blocks = 0;
            while (blocks < 20 && x.block() != ValueMill.NONE) {
                blocks++;
            }
            return seen.add(blocks).build().toArray();
        }
    };

    abstract int[] of(ValueMill x);

    private static void addWords(IntStream.Builder seen, ValueMill x) {
        for (int i = 0; i < 32; i++) {
            seen.add(x.word(i));
        }
    }

    private static int bit(boolean answer) {
        return answer ? 1 : 0;
    }

    /** How many operations a block still takes. */
    static int roomIn(ValueMill x, int block) {
        int taken = 0;
        while (taken < 20 && x.op(block, 0, 9, 1, 0)) {
            taken++;
        }
        return taken;
    }
}
