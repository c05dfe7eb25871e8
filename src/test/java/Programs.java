/** Programs that more than one test tells. */
final class Programs {
    private Programs() {
    }

    /** So many empty blocks. */
    static ValueMill blocks(int count) {
        ValueMill x = new ValueMill();
        for (int i = 0; i < count; i++) {
            x.block();
        }
        return x;
    }

    /** 0 to 1 or 2, both to 3; 4 is dead and goes to 3. */
    static ValueMill diamond() {
        ValueMill x = blocks(5);
        x.branch(0, 0, 1, 2);
        x.jump(1, 3);
        x.jump(2, 3);
        x.jump(4, 3);
        return x;
    }

    /** 0 - 1 - 2 - 3, 3 back to 2 or on to 4, 4 back to 1 or on to 5. */
    static ValueMill nested() {
        ValueMill x = blocks(6);
        x.jump(0, 1);
        x.jump(1, 2);
        x.jump(2, 3);
        x.branch(3, 0, 2, 4);
        x.branch(4, 0, 1, 5);
        return x;
    }

    /** 0 to 1 or 2, which go to one another: no head. 2 also goes to 3. */
    static ValueMill crossed() {
        ValueMill x = blocks(4);
        x.branch(0, 0, 1, 2);
        x.jump(1, 2);
        x.branch(2, 0, 1, 3);
        return x;
    }

    /** Blocks in a row, each to the next one. */
    static ValueMill row(int count) {
        ValueMill x = blocks(count);
        for (int block = 0; block + 1 < count; block++) {
            x.jump(block, block + 1);
        }
        return x;
    }

    /** 0, and then all ten from the last to 1, in a row. */
    static ValueMill rowFromTheLast() {
        ValueMill x = blocks(10);
        x.jump(0, 9);
        for (int block = 9; block > 1; block--) {
            x.jump(block, block - 1);
        }
        return x;
    }

    /** 0: sets up; 1: asks; 2: one round with a call; 3: returns the rounds. Enters 3 + 2 * rounds. */
    static ValueMill countdown(int rounds) {
        ValueMill x = blocks(4);
        x.op(0, 0, 1, rounds, 0);
        x.op(0, 0, 2, 1, 0);
        x.jump(0, 1);
        x.branch(1, 1, 2, 3);
        x.op(2, 3, 1, 1, 2);
        x.op(2, 18, 3, 1, 5);
        x.op(2, 2, 4, 4, 2);
        x.jump(2, 1);
        x.ret(3, 4);
        return x;
    }

    /**
     * Ten blocks in a row with twelve operations each: 0 .. 9 in the temporaries, and then 110 times the
     * next temporary is added to one, in turn. The last block returns temporary 5.
     */
    static ValueMill full() {
        ValueMill x = row(10);
        for (int i = 0; i < 120; i++) {
            int t = i % 10;
            if (i < 10) {
                x.op(0, 0, t, t, 0);
            } else {
                x.op(i / 12, 2, t, t, (t + 1) % 10);
            }
        }
        x.ret(9, 5);
        return x;
    }

    /**
     * Ten blocks: three rounds of 1 2 3 4 6, in each a call, a write and the twelve operations of
     * block 3, then 7, which returns 36; 5 is never gone to, 8 and 9 are dead. Enters 18.
     */
    static ValueMill busy() {
        ValueMill x = blocks(10);
        x.memory(0, 5);
        x.memory(31, -7);
        x.op(0, 0, 1, 3, 0);
        x.op(0, 0, 2, 1, 0);
        x.jump(0, 1);
        x.branch(1, 1, 2, 7);
        x.op(2, 3, 1, 1, 2);
        x.op(2, 18, 3, 1, 5);
        x.op(2, 17, 0, 3, 1);
        x.jump(2, 3);
        for (int i = 0; i < 12; i++) {
            x.op(3, 2, 4, 4, 2);
        }
        x.branch(3, 4, 4, 5);
        x.jump(4, 6);
        x.op(5, 0, 4, 1, 0);
        x.jump(5, 6);
        x.jump(6, 1);
        x.ret(7, 4);
        x.op(8, 1, 5, 6, 0);
        x.branch(8, 8, 7, 9);
        x.op(9, 18, 7, 7, 9);
        x.branch(9, 9, 8, 9);
        return x;
    }

    /** The same, and run at a stage. */
    static ValueMill busyRun(int stage) {
        ValueMill x = busy();
        x.run(stage, 2, 100);
        return x;
    }
}
