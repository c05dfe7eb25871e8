/**
 * One of all the programs of so many blocks in which a block takes a temporary, makes it, does both, or
 * neither, and has any of the ends that it can have; where an end goes by a temporary, it is that one.
 */
final class Small {
    static final int T = 4;
    private static final int DEEDS = 4;

    final int blocks;
    private final int[] deed;
    private final int[] end;

    private Small(int blocks) {
        this.blocks = blocks;
        this.deed = new int[blocks];
        this.end = new int[blocks];
    }

    /** A block returns, goes to one of the blocks, or to one of two of them. */
    private static int ends(int blocks) {
        return 1 + blocks + blocks * blocks;
    }

    /** How many there are in which no block takes or makes the temporary but at its end. */
    static int shapes(int blocks) {
        int shapes = 1;
        for (int block = 0; block < blocks; block++) {
            shapes *= ends(blocks);
        }
        return shapes;
    }

    /** How many there are: for each shape, all that the blocks can do. */
    static int count(int blocks) {
        int count = shapes(blocks);
        for (int block = 0; block < blocks; block++) {
            count *= DEEDS;
        }
        return count;
    }

    /** The first ones are the shapes. */
    static Small at(int blocks, int index) {
        Small program = new Small(blocks);
        int left = index;
        for (int block = 0; block < blocks; block++) {
            program.end[block] = left % ends(blocks);
            left /= ends(blocks);
        }
        for (int block = 0; block < blocks; block++) {
            program.deed[block] = left % DEEDS;
            left /= DEEDS;
        }
        return program;
    }

    int[] edges(int block) {
        int way = end[block] - 1 - blocks;
        if (way >= 0) {
            return new int[] {way / blocks, way % blocks};
        }
        return end[block] == 0 ? new int[0] : new int[] {end[block] - 1};
    }

    boolean takesFirst(int block) {
        return deed[block] == 1 || deed[block] == 3 || deed[block] == 0 && edges(block).length != 1;
    }

    boolean makes(int block) {
        return deed[block] >= 2;
    }

    ValueMill told() {
        ValueMill mill = Programs.blocks(blocks);
        for (int block = 0; block < blocks; block++) {
            switch (deed[block]) {
                case 1 -> mill.op(block, 18, 8, T, block);
                case 2 -> mill.op(block, 0, T, block, 0);
                case 3 -> mill.op(block, 18, T, T, block);
                default -> { }
            }
            int[] edges = edges(block);
            switch (edges.length) {
                case 0 -> mill.ret(block, T);
                case 1 -> mill.jump(block, edges[0]);
                default -> mill.branch(block, T, edges[0], edges[1]);
            }
        }
        return mill;
    }

    @Override
    public String toString() {
        StringBuilder told = new StringBuilder();
        for (int block = 0; block < blocks; block++) {
            told.append(block).append(new String[] {" ", " takes ", " makes ", " takes and makes "}[deed[block]]);
            told.append(java.util.Arrays.toString(edges(block))).append("; ");
        }
        return told.toString();
    }
}
