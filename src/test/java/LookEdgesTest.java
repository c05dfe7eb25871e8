import java.util.Arrays;
import java.util.function.IntPredicate;
import java.util.function.IntUnaryOperator;

/** The boundary cases of what is answered about blocks, promises 14 to 19. */
public final class LookEdgesTest {
    private static final int LEAST = Integer.MIN_VALUE;
    private static final int MOST = Integer.MAX_VALUE;
    private static final int NONE = ValueMill.NONE;
    private static final int[] NO_BLOCK = {LEAST, -10, -1, 10, 11, 31, 32, 33, MOST};

    private final Expect e = new Expect();

    public static void main(String[] args) {
        LookEdgesTest test = new LookEdgesTest();
        test.orderOfNone();
        test.orderLimits();
        test.orderOfDead();
        test.orderByFirstEdges();
        test.orderAnew();
        test.nearestOfNone();
        test.nearestOfEntry();
        test.nearestInRows();
        test.frontierOfNone();
        test.frontierOfDead();
        test.frontierOfItself();
        test.liveOfNone();
        test.liveInDead();
        test.liveFromTheFirst();
        test.liveUsed();
        test.liveAlongAll();
        test.phiOfNone();
        test.phiOfDead();
        test.phiOfEntry();
        test.phiOnlyWhereLive();
        test.depthOfNone();
        test.depthOfDead();
        test.depthOfItself();
        test.depthOfTen();
        test.firstAndSecondEdge();
        test.twoEdgesToOne();
        test.e.finish();
    }

    private void dueForNoBlock(String what, IntUnaryOperator call, int count, int due) {
        for (int block : NO_BLOCK) {
            e.due(what + " " + block, call.applyAsInt(block), due);
        }
        for (int block = count; block < 10; block++) {
            e.due(what + " " + block + " of " + count, call.applyAsInt(block), due);
        }
    }

    /** All tens that a call answers, as a set; what it answers beyond them must be false. */
    private void due(String what, IntPredicate call, int... members) {
        for (int i = 0; i < 10; i++) {
            boolean in = false;
            for (int member : members) {
                in |= member == i;
            }
            e.due(what + " " + i, call.test(i), in);
        }
        for (int i : NO_BLOCK) {
            e.due(what + " " + i, call.test(i), false);
        }
    }

    private void order(String what, ValueMill x, int... due) {
        for (int k = 0; k < due.length; k++) {
            e.due(what + ": order(" + k + ")", x.order(k), due[k]);
        }
        dueForNoBlock(what + ": order", x::order, due.length, NONE);
    }

    private void orderOfNone() {
        e.about("The k-th block of the order; NONE when there is none such.");
        order("no block", new ValueMill());
        ValueMill x = new ValueMill();
        x.block();
        x.order(0);
        x.block();
        order("two, of which one is dead", x, 0);
    }

    private void orderLimits() {
        e.about("The k-th block of the order; NONE when there is none such.");
        int[] all = {0, 1, 2, 3, 4, 5, 6, 7, 8, 9};
        for (int count = 1; count <= 10; count++) {
            order("a row of " + count, Programs.row(count), Arrays.copyOf(all, count));
        }
        order("a row from the last", Programs.rowFromTheLast(), 0, 9, 8, 7, 6, 5, 4, 3, 2, 1);
    }

    private void orderOfDead() {
        e.about("Blocks that the entry does not reach are DEAD. THE ORDER: blocks that are not dead");
        ValueMill x = Programs.row(10);
        x.ret(4, 0);
        order("cut", x, 0, 1, 2, 3, 4);
        x.ret(0, 0);
        order("cut at the entry", x, 0);
        x.jump(9, 0);
        order("dead ones go to the entry", x, 0);
        x.jump(0, 0);
        order("the entry goes to itself", x, 0);
        x.branch(0, 0, 0, 8);
        order("a way behind itself", x, 0, 8, 9);
    }

    private void orderByFirstEdges() {
        e.about("go from the entry by first edges first, each block once");
        ValueMill x = Programs.diamond();
        order("the first edge first", x, 0, 2, 1, 3);
        x.branch(0, 0, 2, 1);
        order("the other first", x, 0, 1, 2, 3);
        x.branch(0, 0, 3, 1);
        order("the end first", x, 0, 1, 3);
        ValueMill y = Programs.blocks(10);
        for (int block = 0; block < 10; block++) {
            y.branch(block, 0, (block + 3) % 10, (block + 9) % 10);
        }
        order("all in one go", y, 0, 3, 6, 9, 2, 5, 8, 1, 4, 7);
    }

    private void orderAnew() {
        e.about("The k-th block of the order; NONE when there is none such.");
        ValueMill x = Programs.blocks(3);
        order("at first", x, 0);
        x.jump(0, 1);
        order("jump", x, 0, 1);
        x.branch(0, 1, 1, 2);
        order("branch", x, 0, 2, 1);
        e.due("live before", x.live(0, 5), false);
        x.op(2, 1, 5, 5, 0);
        e.due("live behind an operation", x.live(0, 5), true);
        x.ret(0, 5);
        order("ret", x, 0);
        e.due("nearest behind ret", x.nearest(1), NONE);
        e.due("depth behind ret", x.depth(1), NONE);
        e.due("no block yet", x.live(3, 0), false);
        x.block();
        e.due("one more block", x.live(3, 0), true);
    }

    private void nearestOfNone() {
        e.about("The nearest strict dominator; NONE when there is none, or no such block, or it is dead.");
        dueForNoBlock("no blocks: nearest", new ValueMill()::nearest, 0, NONE);
        for (int count = 1; count <= 10; count++) {
            ValueMill x = Programs.row(count);
            dueForNoBlock("nearest", x::nearest, count, NONE);
            e.due("of the last of " + count, x.nearest(count - 1), count == 1 ? NONE : count - 2);
            x.ret(0, 0);
            dueForNoBlock("dead: nearest", x::nearest, 1, NONE);
        }
        ValueMill y = Programs.diamond();
        e.due("dead, but goes to one that is not", y.nearest(4), NONE);
        e.due("what a dead one goes to", y.nearest(3), 0);
        y.jump(4, 1);
        e.due("a dead one is no way", y.nearest(1), 0);
        e.due("nor behind", y.nearest(3), 0);
    }

    private void nearestOfEntry() {
        e.about("STRICTLY if they differ");
        ValueMill x = Programs.row(10);
        e.due("the entry", x.nearest(0), NONE);
        x.jump(9, 0);
        e.due("the entry, gone back to", x.nearest(0), NONE);
        x.jump(0, 0);
        e.due("the entry, going to itself", x.nearest(0), NONE);
        ValueMill y = Programs.blocks(2);
        y.branch(0, 0, 1, 1);
        y.jump(1, 1);
        e.due("one that goes to itself", y.nearest(1), 0);
    }

    private void nearestInRows() {
        e.about("One block DOMINATES another (neither is dead) if each way from the entry to that comes by it; "
                + "STRICTLY if they differ. The NEAREST of a block's strict dominators is the one that all the "
                + "others dominate.");
        ValueMill down = Programs.rowFromTheLast();
        for (int block = 1; block < 10; block++) {
            e.due("in a row from the last", down.nearest(block), block == 9 ? 0 : block + 1);
        }
        ValueMill x = Programs.row(10);
        for (int block = 1; block < 10; block++) {
            e.due("in a row", x.nearest(block), block - 1);
        }
        for (int block = 1; block < 9; block++) {
            x.branch(block, 0, block + 1, 9);
        }
        e.due("where all ways meet", x.nearest(9), 1);
        e.due("beside them", x.nearest(8), 7);
        x.branch(0, 0, 1, 9);
        e.due("from the entry, too", x.nearest(9), 0);
    }

    private void frontierOfNone() {
        e.about("Whether c is in the frontier of a block (neither of them dead); false when there are none such.");
        ValueMill none = new ValueMill();
        ValueMill x = Programs.blocks(1);
        x.jump(0, 0);
        e.due("the only one", x.frontier(0, 0), true);
        for (int wrong : NO_BLOCK) {
            e.due("no blocks", none.frontier(wrong, 0), false);
            e.due("no blocks", none.frontier(0, wrong), false);
            e.due("frontier(" + wrong + ", 0)", x.frontier(wrong, 0), false);
            e.due("frontier(0, " + wrong + ")", x.frontier(0, wrong), false);
            e.due("frontier(" + wrong + ", " + wrong + ")", x.frontier(wrong, wrong), false);
        }
        e.due("one beyond", x.frontier(1, 0), false);
        e.due("one beyond", x.frontier(0, 1), false);
        e.due("one beyond", x.frontier(1, 1), false);
    }

    private void frontierOfDead() {
        e.about("Whether c is in the frontier of a block (neither of them dead); false when there are none such.");
        ValueMill x = Programs.diamond();
        due("of a dead one", c -> x.frontier(4, c));
        due("beside a dead one", c -> x.frontier(1, c), 3);
        x.jump(4, 4);
        due("of a dead one that goes to itself", c -> x.frontier(4, c));
        ValueMill y = Programs.row(3);
        y.block();
        y.jump(3, 2);
        due("one way that is not dead", c -> y.frontier(1, c));
        y.branch(0, 0, 1, 3);
        due("two ways that are not dead", c -> y.frontier(1, c), 2);
        due("the other", c -> y.frontier(3, c), 2);
        y.jump(0, 1);
        due("one way again", c -> y.frontier(3, c));
    }

    private void frontierOfItself() {
        e.about("but which it does not strictly dominate");
        ValueMill x = Programs.row(10);
        for (int block = 0; block < 10; block++) {
            int each = block;
            due("in a row " + block, c -> x.frontier(each, c));
        }
        x.jump(9, 0);
        for (int block = 0; block < 10; block++) {
            int each = block;
            due("in a ring " + block, c -> x.frontier(each, c), 0);
        }
        x.jump(9, 9);
        due("the last, going to itself", c -> x.frontier(9, c), 9);
        due("the one before it", c -> x.frontier(8, c));
        x.branch(9, 0, 5, 9);
        due("in the ring and of itself", c -> x.frontier(9, c), 5, 9);
        due("the ring's first", c -> x.frontier(5, c), 5);
        due("before the ring", c -> x.frontier(4, c));
    }

    private void liveOfNone() {
        e.about("Whether a temporary is live in a block, be it dead or not (ways go along all edges); "
                + "false when there are none such.");
        ValueMill none = new ValueMill();
        ValueMill x = Programs.blocks(1);
        for (int t = 0; t < 10; t++) {
            int each = t;
            e.due("no blocks", none.live(0, t), false);
            x.ret(0, t);
            due("returned: in block 0, temporary", asked -> x.live(0, asked), t);
            due("returned: temporary " + t + " in block", block -> x.live(block, each), 0);
        }
        ValueMill y = Programs.blocks(10);
        due("in all ten, temporary 0 in block", block -> y.live(block, 0), 0, 1, 2, 3, 4, 5, 6, 7, 8, 9);
        due("in all ten, temporary 9 in block", block -> y.live(block, 9));
    }

    private void liveInDead() {
        e.about("A temporary is LIVE in a block (a DEAD one, too) if there is a way along edges");
        ValueMill x = Programs.blocks(4);
        x.ret(0, 1);
        x.jump(2, 3);
        x.ret(3, 9);
        due("along dead ones", block -> x.live(block, 9), 2, 3);
        x.jump(3, 0);
        due("from dead ones to the entry", block -> x.live(block, 1), 0, 2, 3);
        x.jump(0, 1);
        x.op(1, 0, 1, 4, 0);
        x.ret(1, 1);
        due("becomes something before", block -> x.live(block, 1));
        x.jump(3, 3);
        x.op(3, 17, 0, 6, 7);
        due("used in a dead ring", block -> x.live(block, 7), 2, 3);
    }

    private void liveFromTheFirst() {
        e.about("beginning with the block's first operation, to where it is used, before it becomes something");
        ValueMill x = Programs.blocks(2);
        x.op(0, 2, 5, 5, 6);
        due("used by what becomes it", t -> x.live(0, t), 0, 5, 6);
        x.op(1, 0, 5, 1, 0);
        x.op(1, 2, 6, 5, 6);
        x.op(1, 0, 0, 1, 0);
        due("used behind, and before", t -> x.live(1, t), 6);
        x.branch(0, 9, 1, 1);
        due("the first block again", t -> x.live(0, t), 5, 6, 9);
        x.op(0, 0, 9, 1, 0);
        due("asked, but becomes something before", t -> x.live(0, t), 5, 6);
        ValueMill y = Programs.blocks(1);
        for (int i = 0; i < 11; i++) {
            y.op(0, 0, 1, i, 0);
        }
        y.op(0, 1, 2, 9, 0);
        y.ret(0, 1);
        due("used in the twelfth operation", t -> y.live(0, t), 9);
    }

    private void liveUsed() {
        e.about("Used: a, b where they are temporaries, the end's");
        for (int kind = 0; kind <= 18; kind++) {
            ValueMill x = Programs.blocks(2);
            x.op(1, 0, 9, 0, 0);
            x.ret(1, 9);
            x.jump(0, 1);
            boolean told0 = kind == 0 || kind == 1 || kind == 16;
            e.due("kind " + kind, x.op(0, kind, kind == 17 ? 0 : 8, 4, told0 ? 0 : 5), true);
            boolean usesB = kind == 17 || kind > 1 && kind < 16;
            due("kind " + kind, t -> x.live(0, t), kind == 0 ? NONE : 4, usesB ? 5 : NONE);
        }
        ValueMill y = Programs.blocks(2);
        due("returned", t -> y.live(0, t), 0);
        y.branch(0, 3, 0, 0);
        due("asked", t -> y.live(0, t), 3);
        y.jump(0, 0);
        due("goes round without any", t -> y.live(0, t));
        y.op(0, 17, 0, 1, 2);
        y.ret(0, 0);
        due("a write's d becomes nothing", t -> y.live(0, t), 0, 1, 2);
    }

    private void liveAlongAll() {
        e.about("A temporary is LIVE in a block (a DEAD one, too) if there is a way along edges");
        ValueMill x = Programs.row(10);
        x.ret(9, 7);
        due("through all ten", block -> x.live(block, 7), 0, 1, 2, 3, 4, 5, 6, 7, 8, 9);
        x.op(8, 0, 7, 1, 0);
        due("becomes something before the last", block -> x.live(block, 7), 9);
        x.jump(9, 0);
        x.op(4, 1, 1, 7, 0);
        due("round the ring", block -> x.live(block, 7), 0, 1, 2, 3, 4, 9);
        x.jump(9, 9);
        due("no way out", block -> x.live(block, 7), 0, 1, 2, 3, 4);
    }

    private void phiOfNone() {
        e.about("Whether a phi of a temporary stands in a block; likewise.");
        ValueMill none = new ValueMill();
        ValueMill x = Programs.blocks(1);
        for (int t = 0; t < 10; t++) {
            int each = t;
            e.due("no blocks", none.phi(0, t), false);
            x.branch(0, t, 0, 0);
            due("in block 0, temporary", asked -> x.phi(0, asked), t);
            due("temporary " + t + " in block", block -> x.phi(block, each), 0);
        }
    }

    private void phiOfDead() {
        e.about("PHIS of a temporary stand in blocks that are not dead");
        ValueMill x = Programs.diamond();
        x.ret(3, 5);
        x.op(4, 0, 5, 1, 0);
        due("made in a dead one alone", block -> x.phi(block, 5));
        x.op(2, 0, 5, 1, 0);
        due("made in one that is not", block -> x.phi(block, 5), 3);
        x.branch(4, 5, 4, 3);
        due("a dead ring", block -> x.phi(block, 5), 3);
        x.jump(0, 1);
        due("the maker is dead, too", block -> x.phi(block, 5));
    }

    private void phiOfEntry() {
        e.about("which are in the least set that has the frontiers of all blocks in which it becomes "
                + "something (that are not dead), of the entry, and of its own");
        ValueMill x = Programs.row(10);
        x.jump(9, 0);
        x.op(9, 1, 2, 3, 0);
        due("the entry's, made nowhere", block -> x.phi(block, 3), 0);
        due("made, but used nowhere", block -> x.phi(block, 2));
        ValueMill y = Programs.nested();
        y.op(3, 2, 1, 1, 2);
        due("the inner one's, and then the outer one's", block -> y.phi(block, 1), 1, 2);
        due("made in no ring", block -> y.phi(block, 2));
        ValueMill z = Programs.crossed();
        z.op(1, 1, 6, 6, 0);
        due("crossed", block -> z.phi(block, 6), 1, 2);
    }

    private void phiOnlyWhereLive() {
        e.about("in which it is live");
        ValueMill x = Programs.diamond();
        x.op(1, 0, 5, 1, 0);
        x.op(2, 0, 5, 2, 0);
        due("made on both sides, but not used", block -> x.phi(block, 5));
        x.op(3, 0, 5, 3, 0);
        x.ret(3, 5);
        due("becomes something before it is used", block -> x.phi(block, 5));
        ValueMill y = Programs.diamond();
        y.op(1, 0, 5, 1, 0);
        y.op(3, 2, 5, 5, 5);
        due("used by what becomes it", block -> y.phi(block, 5), 3);
    }

    private void depthOfNone() {
        e.about("How many loops a block is in; NONE when there is no such block, or it is dead.");
        dueForNoBlock("no blocks: depth", new ValueMill()::depth, 0, NONE);
        for (int count = 1; count <= 10; count++) {
            ValueMill x = Programs.row(count);
            e.due("the last of " + count, x.depth(count - 1), 0);
            dueForNoBlock("depth", x::depth, count, NONE);
        }
    }

    private void depthOfDead() {
        e.about("How many loops a block is in; NONE when there is no such block, or it is dead.");
        ValueMill x = Programs.row(10);
        x.jump(9, 3);
        e.due("in the ring", x.depth(9), 1);
        e.due("before the ring", x.depth(2), 0);
        x.ret(1, 0);
        dueForNoBlock("dead: depth", x::depth, 2, NONE);
        ValueMill y = Programs.blocks(3);
        y.branch(0, 0, 0, 1);
        y.jump(2, 0);
        e.due("a dead one goes to the head", y.depth(2), NONE);
        e.due("the head", y.depth(0), 1);
        e.due("behind it", y.depth(1), 0);
        ValueMill z = Programs.row(3);
        z.block();
        z.jump(3, 1);
        z.jump(2, 3);
        e.due("three in a ring", z.depth(1) * 100 + z.depth(2) * 10 + z.depth(3), 111);
        z.ret(2, 0);
        e.due("a dead one's edge makes no loop", z.depth(1), 0);
    }

    private void depthOfItself() {
        e.about("A LOOP has a HEAD: a block that dominates one with an edge to it");
        ValueMill x = Programs.blocks(1);
        e.due("one block", x.depth(0), 0);
        x.jump(0, 0);
        e.due("going to itself", x.depth(0), 1);
        x.branch(0, 0, 0, 0);
        e.due("by both edges", x.depth(0), 1);
        ValueMill two = Programs.diamond();
        two.jump(1, 0);
        two.jump(2, 0);
        e.due("two ways back to one head", two.depth(0), 1);
        e.due("two ways back to one head", two.depth(2), 1);
        ValueMill y = Programs.crossed();
        for (int block = 0; block < 4; block++) {
            e.due("no head", y.depth(block), 0);
        }
        y.jump(3, 0);
        for (int block = 0; block < 4; block++) {
            e.due("the entry is one", y.depth(block), 1);
        }
        y.branch(3, 0, 0, 2);
        e.due("2 dominates 3", y.depth(2), 2);
        e.due("and so 3", y.depth(3), 2);
        e.due("1 reaches 3 by 2 alone", y.depth(1), 1);
    }

    private void depthOfTen() {
        e.about("How many loops a block is in; NONE when there is no such block, or it is dead.");
        ValueMill x = Programs.blocks(10);
        x.jump(0, 1);
        for (int block = 1; block < 9; block++) {
            x.branch(block, 0, block + 1, block - 1);
        }
        x.branch(9, 0, 9, 8);
        for (int block = 0; block < 10; block++) {
            e.due("one in the other, block " + block, x.depth(block), block + 1);
        }
        ValueMill y = Programs.blocks(10);
        for (int block = 0; block < 9; block++) {
            y.branch(block, 0, block, block + 1);
        }
        y.jump(9, 9);
        for (int block = 0; block < 10; block++) {
            e.due("one behind the other, block " + block, y.depth(block), 1);
        }
    }

    private void firstAndSecondEdge() {
        e.about("Its EDGES: the first and the second block to which it can go (two, even if they are the same)");
        ValueMill x = Programs.blocks(3);
        x.op(1, 0, 0, 11, 0);
        x.op(2, 0, 0, 12, 0);
        x.branch(0, 4, 1, 2);
        order("1 is the first", x, 0, 2, 1);
        x.run(0, 2, 2);
        e.due("2 is the second", x.value(), 12);
        x.branch(0, 4, 2, 1);
        order("2 is the first", x, 0, 1, 2);
        x.run(0, 2, 2);
        e.due("1 is the second", x.value(), 11);
        x.jump(0, 2);
        order("the first alone", x, 0, 2);
        x.ret(0, 0);
        order("none", x, 0);
    }

    private void twoEdgesToOne() {
        e.about("Its EDGES: the first and the second block to which it can go (two, even if they are the same)");
        ValueMill x = Programs.blocks(2);
        x.branch(0, 4, 1, 1);
        order("to one block", x, 0, 1);
        e.due("nearest", x.nearest(1), 0);
        due("no frontier", c -> x.frontier(0, c));
        e.due("asked all the same", x.live(0, 4), true);
        x.op(0, 0, 5, 1, 0);
        x.ret(1, 5);
        due("no phi", block -> x.phi(block, 5));
        x.branch(1, 5, 1, 1);
        due("to itself by both", c -> x.frontier(1, c), 1);
        due("its phi: not made there, but nothing else meets", block -> x.phi(block, 5));
        x.op(1, 2, 5, 5, 5);
        due("its phi, made there", block -> x.phi(block, 5), 1);
    }
}
