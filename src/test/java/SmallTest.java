import java.util.ArrayList;
import java.util.List;

/**
 * Every {@link Small} program of up to three blocks, and some of four, with the document's terms taken at
 * their word: ways are gone one by one, and the least set is what all such sets have in common.
 */
public final class SmallTest {
    private static final int MOST_BLOCKS = 4;
    /** A prime, so that each end and each deed of each block comes up, with all of the others'. */
    private static final int STEP_OF_FOUR = 4001;

    private final Expect e = new Expect();
    private Small program;
    private ValueMill mill;
    private int blocks;
    private final List<List<List<Integer>>> ways = new ArrayList<>();
    private final boolean[][] dominates = new boolean[MOST_BLOCKS][MOST_BLOCKS];

    public static void main(String[] args) {
        SmallTest test = new SmallTest();
        for (int blocks = 1; blocks < MOST_BLOCKS; blocks++) {
            for (int index = 0; index < Small.count(blocks) && test.e.wrong() < 20; index++) {
                test.begin(Small.at(blocks, index));
                if (index < Small.shapes(blocks)) {
                    test.lookAtShape();
                }
                test.lookAtTemporary();
            }
        }
        for (int index = 0; index < Small.count(MOST_BLOCKS) && test.e.wrong() < 20; index += STEP_OF_FOUR) {
            test.begin(Small.at(MOST_BLOCKS, index));
            test.lookAtShape();
            test.lookAtTemporary();
        }
        test.e.finish();
    }

    private void begin(Small newProgram) {
        program = newProgram;
        mill = program.told();
        blocks = program.blocks;
        ways.clear();
        for (int block = 0; block < blocks; block++) {
            List<List<Integer>> found = new ArrayList<>();
            go(List.of(block), found);
            ways.add(found);
        }
        for (int one = 0; one < blocks; one++) {
            for (int other = 0; other < blocks; other++) {
                dominates[one][other] = isOnEachWay(one, other);
            }
        }
    }

    /** A way that comes by a block twice need not be gone: there is a shorter one by fewer blocks. */
    private void go(List<Integer> way, List<List<Integer>> found) {
        found.add(way);
        for (int to : program.edges(way.get(way.size() - 1))) {
            if (!way.contains(to)) {
                List<Integer> longer = new ArrayList<>(way);
                longer.add(to);
                go(longer, found);
            }
        }
    }

    private void due(String call, long got, long want) {
        e.due(got == want ? call : program + call, got, want);
    }

    private void due(String call, boolean got, boolean want) {
        due(call, got ? 1 : 0, want ? 1 : 0);
    }

    private void lookAtShape() {
        e.about("A block REACHES another one along edges (itself, too). Blocks that the entry does not reach "
                + "are DEAD.");
        for (int block = 0; block < blocks; block++) {
            due("depth of a dead block", mill.depth(block) == ValueMill.NONE, isDead(block));
        }
        e.about("go from the entry by first edges first, each block once, and note a block when all its "
                + "edges were gone; the order is what was noted, from the last to the first.");
        List<Integer> order = new ArrayList<>();
        note(0, new ArrayList<>(), order);
        for (int k = -1; k <= blocks; k++) {
            due("order(" + k + ")", mill.order(k), k >= 0 && k < order.size() ? order.get(k) : ValueMill.NONE);
        }
        e.about("One block DOMINATES another (neither is dead) if each way from the entry to that comes by it; "
                + "STRICTLY if they differ. The NEAREST of a block's strict dominators is the one that all the "
                + "others dominate.");
        for (int block = 0; block < blocks; block++) {
            due("nearest(" + block + ")", mill.nearest(block), nearest(block));
        }
        e.about("The FRONTIER of a block are the blocks c that are not dead, of which it dominates one that has "
                + "an edge to c, but which it does not strictly dominate.");
        for (int block = 0; block < blocks; block++) {
            for (int c = 0; c < blocks; c++) {
                due("frontier(" + block + ", " + c + ")", mill.frontier(block, c), isInFrontier(block, c));
            }
        }
        e.about("A LOOP has a HEAD: a block that dominates one with an edge to it; it has the head, and all "
                + "blocks that are not dead and reach such a one by a way that does not come by the head.");
        for (int block = 0; block < blocks; block++) {
            due("depth(" + block + ")", mill.depth(block), isDead(block) ? ValueMill.NONE : loopsRound(block));
        }
    }

    private void lookAtTemporary() {
        e.about("A temporary is LIVE in a block (a DEAD one, too) if there is a way along edges, beginning with "
                + "the block's first operation, to where it is used, before it becomes something.");
        for (int block = 0; block < blocks; block++) {
            due("live(" + block + ")", mill.live(block, Small.T), isLive(block));
        }
        e.about("PHIS of a temporary stand in blocks that are not dead, in which it is live, and which are in "
                + "the least set that has the frontiers of all blocks in which it becomes something (that are "
                + "not dead), of the entry, and of its own.");
        int least = leastSet();
        for (int block = 0; block < blocks; block++) {
            boolean stands = !isDead(block) && isLive(block) && isIn(least, block);
            due("phi(" + block + ")", mill.phi(block, Small.T), stands);
        }
    }

    private static boolean isIn(int set, int block) {
        return (set >> block & 1) == 1;
    }

    private boolean isDead(int block) {
        return waysTo(block).isEmpty();
    }

    private List<List<Integer>> waysTo(int block) {
        List<List<Integer>> found = new ArrayList<>();
        for (List<Integer> way : ways.get(0)) {
            if (way.get(way.size() - 1) == block) {
                found.add(way);
            }
        }
        return found;
    }

    private boolean hasEdge(int from, int to) {
        for (int edge : program.edges(from)) {
            if (edge == to) {
                return true;
            }
        }
        return false;
    }

    private void note(int block, List<Integer> gone, List<Integer> order) {
        if (gone.contains(block)) {
            return;
        }
        gone.add(block);
        for (int to : program.edges(block)) {
            note(to, gone, order);
        }
        order.add(0, block);
    }

    private boolean isOnEachWay(int one, int other) {
        boolean each = !isDead(one) && !isDead(other);
        for (List<Integer> way : waysTo(other)) {
            each &= way.contains(one);
        }
        return each;
    }

    private boolean strictly(int one, int other) {
        return one != other && dominates[one][other];
    }

    private int nearest(int block) {
        int found = ValueMill.NONE;
        for (int one = 0; one < blocks; one++) {
            boolean isNearest = strictly(one, block);
            for (int other = 0; other < blocks; other++) {
                isNearest &= !strictly(other, block) || dominates[other][one];
            }
            found = isNearest ? one : found;
        }
        return found;
    }

    private boolean isInFrontier(int block, int c) {
        boolean comes = false;
        for (int from = 0; from < blocks; from++) {
            comes |= dominates[block][from] && hasEdge(from, c);
        }
        return comes && !isDead(c) && !strictly(block, c);
    }

    private int loopsRound(int block) {
        int loops = 0;
        for (int head = 0; head < blocks; head++) {
            boolean isIn = false;
            for (int tail = 0; tail < blocks; tail++) {
                boolean turns = dominates[head][tail] && hasEdge(tail, head);
                isIn |= turns && (block == head || reachesWithout(head, block, tail));
            }
            loops += isIn ? 1 : 0;
        }
        return loops;
    }

    private boolean reachesWithout(int head, int block, int tail) {
        for (List<Integer> way : ways.get(block)) {
            if (way.get(way.size() - 1) == tail && !way.contains(head)) {
                return true;
            }
        }
        return false;
    }

    private boolean isLive(int block) {
        for (List<Integer> way : ways.get(block)) {
            int last = way.get(way.size() - 1);
            boolean comesThere = program.takesFirst(last);
            for (int before : way.subList(0, way.size() - 1)) {
                comesThere &= !program.makes(before);
            }
            if (comesThere) {
                return true;
            }
        }
        return false;
    }

    private int leastSet() {
        int least = (1 << blocks) - 1;
        for (int set = 0; set < 1 << blocks; set++) {
            least &= hasItsFrontiers(set) ? set : least;
        }
        return least;
    }

    private boolean hasItsFrontiers(int set) {
        for (int block = 0; block < blocks; block++) {
            if (block == 0 || program.makes(block) && !isDead(block) || isIn(set, block)) {
                for (int c = 0; c < blocks; c++) {
                    if (isInFrontier(block, c) && !isIn(set, c)) {
                        return false;
                    }
                }
            }
        }
        return true;
    }
}
