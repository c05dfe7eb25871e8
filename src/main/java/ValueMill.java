import java.util.Arrays;

/**
 * A small backend: programs of blocks over temporaries are looked at, and run at four stages that
 * all do the same. The classes inside stand in the order in which a program goes through them.
 *
 * <p>Every row is made once, in a constructor, and used again: no call makes an object.
 */
public final class ValueMill {
    public static final int NONE = -1;

    private static final int BLOCKS = 10;
    private static final int TEMPS = 10;
    private static final int OPS = 12;
    private static final int WORDS = 32;
    private static final int OUTER_NUMBERS = 10;
    private static final int LEAST_REGISTERS = 2;
    private static final int MOST_REGISTERS = 8;
    private static final int MOST_FUEL = 500;

    private static final int NUMBER = 0;
    private static final int COPY = 1;
    private static final int PLUS = 2;
    private static final int MINUS = 3;
    private static final int TIMES = 4;
    private static final int OVER = 5;
    private static final int REST = 6;
    private static final int AND = 7;
    private static final int OR = 8;
    private static final int XOR = 9;
    private static final int UP = 10;
    private static final int DOWN = 11;
    private static final int DOWN_WITH_ZEROS = 12;
    private static final int SAME = 13;
    private static final int LESS = 14;
    private static final int LESS_WITHOUT_SIGNS = 15;
    private static final int READ = 16;
    private static final int WRITE = 17;
    private static final int CALL = 18;

    private static final int RETURNS = 0;
    private static final int JUMPS = 1;
    private static final int BRANCHES = 2;

    private static final int AS_IT_IS = 0;
    private static final int NAMED_ONCE = 1;
    private static final int IN_FEW_REGISTERS = 3;

    private static final int GOES_ON = -1;
    private static final int RETURNED = 0;
    private static final int DIVISION = 1;
    private static final int ADDRESS = 2;
    private static final int FUEL = 3;

    // The names of values: the 0 that all temporaries begin with, then a phi for each temporary of
    // each block, then what each operation makes. Fixed places, so that no name is ever handed out.
    private static final int ZERO = 0;
    private static final int FIRST_PHI = 1;
    private static final int FIRST_MADE = FIRST_PHI + BLOCKS * TEMPS;
    private static final int VALUES = FIRST_MADE + BLOCKS * OPS;

    // The cells that code works on: in few registers, these come first and a slot for each name
    // behind them; at the stages before, a cell bears the number of its temporary or name.
    private static final int FIRST_SLOT = MOST_REGISTERS;
    private static final int SPARE = FIRST_SLOT + VALUES;
    private static final int CELLS = SPARE + 1;

    // The sections of code: the blocks, then what is done along each block's two edges.
    private static final int FIRST_ROAD = BLOCKS;
    private static final int SECTIONS = FIRST_ROAD + 2 * BLOCKS;

    private static final int A_IS_NUMBER = 1;
    private static final int B_IS_NUMBER = 2;

    private final Program program = new Program();
    private final Flow flow = new Flow(program);
    private final Lives lives = new Lives(program, flow);
    private final Names names = new Names(program, flow, lives);
    private final Stands stands = new Stands(program, flow, lives, names);
    private final Homes homes = new Homes(program, flow, lives, names, stands);
    private final Code code = new Code();
    private final Writer writer = new Writer(program, flow, names, stands, homes, code);
    private final Machine machine = new Machine();
    private boolean looked;
    private int madeStage = NONE;
    private int madeRegisters = NONE;

    public ValueMill() {
    }

    public int block() {
        if (program.blocks == BLOCKS) {
            return NONE;
        }
        forgetWhatWasMade();
        program.blocks++;
        return program.blocks - 1;
    }

    public boolean op(int block, int kind, int d, int a, int b) {
        if (!program.hasBlock(block) || program.length[block] == OPS || !isSuch(kind, d, a, b)) {
            return false;
        }
        forgetWhatWasMade();
        program.addOperation(block, kind, d, a, b);
        return true;
    }

    public boolean jump(int block, int to) {
        if (!program.hasBlock(block) || !program.hasBlock(to)) {
            return false;
        }
        forgetWhatWasMade();
        program.setEnd(block, JUMPS, 0);
        program.setEdges(block, to, to);
        return true;
    }

    public boolean branch(int block, int t, int yes, int no) {
        if (!program.hasBlock(block) || !isTemp(t) || !program.hasBlock(yes) || !program.hasBlock(no)) {
            return false;
        }
        forgetWhatWasMade();
        program.setEnd(block, BRANCHES, t);
        program.setEdges(block, yes, no);
        return true;
    }

    public boolean ret(int block, int t) {
        if (!program.hasBlock(block) || !isTemp(t)) {
            return false;
        }
        forgetWhatWasMade();
        program.setEnd(block, RETURNS, t);
        return true;
    }

    public boolean memory(int i, int v) {
        if (!isWord(i)) {
            return false;
        }
        program.told[i] = v;
        return true;
    }

    public int run(int stage, int registers, int fuel) {
        if (program.blocks == 0 || stage < AS_IT_IS || stage > IN_FEW_REGISTERS) {
            return NONE;
        }
        if (registers < LEAST_REGISTERS || registers > MOST_REGISTERS || fuel < 0 || fuel > MOST_FUEL) {
            return NONE;
        }
        makeCode(stage, registers);
        return machine.follow(code, program, fuel);
    }

    public int value() {
        return machine.returned;
    }

    public int entered() {
        return machine.blocksEntered;
    }

    public int word(int i) {
        return isWord(i) ? machine.words[i] : 0;
    }

    public int calls() {
        return machine.callsMade;
    }

    public int call(int k, int what) {
        return machine.told(k, what);
    }

    public int order(int k) {
        look();
        return k >= 0 && k < flow.count ? flow.order[k] : NONE;
    }

    public int nearest(int block) {
        look();
        return flow.isAlive(block) ? flow.nearest[block] : NONE;
    }

    public boolean frontier(int block, int c) {
        look();
        return flow.isAlive(block) && flow.isAlive(c) && isIn(flow.frontier[block], c);
    }

    public boolean live(int block, int t) {
        look();
        return program.hasBlock(block) && isTemp(t) && isIn(lives.live[block], t);
    }

    public boolean phi(int block, int t) {
        look();
        return program.hasBlock(block) && isTemp(t) && isIn(lives.phis[block], t);
    }

    public int depth(int block) {
        look();
        return flow.isAlive(block) ? flow.depth[block] : NONE;
    }

    private void forgetWhatWasMade() {
        looked = false;
        madeStage = NONE;
    }

    private void look() {
        if (looked) {
            return;
        }
        flow.lookAt();
        lives.lookAt();
        looked = true;
    }

    private void makeCode(int stage, int registers) {
        if (madeStage == stage && madeRegisters == registers) {
            return;
        }
        if (stage == AS_IT_IS) {
            writer.writeAsItIs();
        } else {
            look();
            names.giveNames();
            if (stage == NAMED_ONCE) {
                stands.letAllBe();
            } else {
                stands.settle();
            }
            if (stage == IN_FEW_REGISTERS) {
                homes.shareRegisters(registers);
            } else {
                homes.giveEachItsOwn();
            }
            writer.writeNamed();
        }
        madeStage = stage;
        madeRegisters = registers;
    }

    private static boolean isTemp(int t) {
        return t >= 0 && t < TEMPS;
    }

    private static boolean isWord(int i) {
        return i >= 0 && i < WORDS;
    }

    private static boolean isSuch(int kind, int d, int a, int b) {
        switch (kind) {
            case NUMBER:
                return isTemp(d) && b == 0;
            case COPY:
            case READ:
                return isTemp(d) && isTemp(a) && b == 0;
            case WRITE:
                return d == 0 && isTemp(a) && isTemp(b);
            case CALL:
                return isTemp(d) && isTemp(a) && b >= 0 && b < OUTER_NUMBERS;
            default:
                return kind > COPY && kind < READ && isTemp(d) && isTemp(a) && isTemp(b);
        }
    }

    private static boolean isIn(int set, int member) {
        return (set >> member & 1) != 0;
    }

    private static boolean failsToDivide(int kind, int a, int b) {
        return (kind == OVER || kind == REST) && (b == 0 || a == Integer.MIN_VALUE && b == -1);
    }

    /** What an operation makes of a and b alone; one of the kinds that take no memory and no call. */
    private static int reckon(int kind, int a, int b) {
        switch (kind) {
            case PLUS:
                return a + b;
            case MINUS:
                return a - b;
            case TIMES:
                return a * b;
            case OVER:
                return b == 0 ? 0 : a / b;
            case REST:
                return b == 0 ? 0 : a % b;
            case AND:
                return a & b;
            case OR:
                return a | b;
            case XOR:
                return a ^ b;
            case UP:
                return a << (b & 31);
            case DOWN:
                return a >> (b & 31);
            case DOWN_WITH_ZEROS:
                return a >>> (b & 31);
            case SAME:
                return a == b ? 1 : 0;
            case LESS:
                return a < b ? 1 : 0;
            case LESS_WITHOUT_SIGNS:
                return a + Integer.MIN_VALUE < b + Integer.MIN_VALUE ? 1 : 0;
            default:
                return a;
        }
    }

    private static int phiName(int block, int t) {
        return FIRST_PHI + block * TEMPS + t;
    }

    private static int madeName(int at) {
        return FIRST_MADE + at;
    }

    private static int roadOf(int block, int edge) {
        return FIRST_ROAD + 2 * block + edge;
    }

    /** What was told: blocks, their operations and ends, and the memory at the beginning of runs. */
    private static final class Program {
        private final int[] kind = new int[BLOCKS * OPS];
        private final int[] d = new int[BLOCKS * OPS];
        private final int[] a = new int[BLOCKS * OPS];
        private final int[] b = new int[BLOCKS * OPS];
        private final int[] length = new int[BLOCKS];
        private final int[] end = new int[BLOCKS];
        private final int[] endTemp = new int[BLOCKS];
        private final int[] first = new int[BLOCKS];
        private final int[] second = new int[BLOCKS];
        private final int[] told = new int[WORDS];
        private int blocks;

        private boolean hasBlock(int block) {
            return block >= 0 && block < blocks;
        }

        private void addOperation(int block, int newKind, int newD, int newA, int newB) {
            int at = block * OPS + length[block];
            kind[at] = newKind;
            d[at] = newD;
            a[at] = newA;
            b[at] = newB;
            length[block]++;
        }

        private void setEnd(int block, int how, int t) {
            end[block] = how;
            endTemp[block] = t;
        }

        private void setEdges(int block, int yes, int no) {
            first[block] = yes;
            second[block] = no;
        }

        private int edges(int block) {
            return end[block] == RETURNS ? 0 : end[block] == JUMPS ? 1 : 2;
        }

        private int target(int block, int edge) {
            return edge == 0 ? first[block] : second[block];
        }

        private boolean endTakesTemp(int block) {
            return end[block] != JUMPS;
        }

        private boolean takesA(int at) {
            return kind[at] != NUMBER;
        }

        private boolean takesB(int at) {
            return kind[at] == WRITE || kind[at] > COPY && kind[at] < READ;
        }

        private boolean makesValue(int at) {
            return kind[at] != WRITE;
        }

        private int usedSet(int at) {
            return (takesA(at) ? 1 << a[at] : 0) | (takesB(at) ? 1 << b[at] : 0);
        }

        private int madeSet(int at) {
            return makesValue(at) ? 1 << d[at] : 0;
        }

        private int usedAtEndSet(int block) {
            return endTakesTemp(block) ? 1 << endTemp[block] : 0;
        }
    }

    /** How blocks hang together. Sets of blocks are bits of an int. */
    private static final class Flow {
        private final Program program;
        private final int[] next = new int[BLOCKS];
        private final int[] previous = new int[BLOCKS];
        private final int[] order = new int[BLOCKS];
        private final int[] dominators = new int[BLOCKS];
        private final int[] nearest = new int[BLOCKS];
        private final int[] frontier = new int[BLOCKS];
        private final int[] depth = new int[BLOCKS];
        private int alive;
        private int gone;
        private int count;

        private Flow(Program program) {
            this.program = program;
        }

        private void lookAt() {
            findEdges();
            findOrder();
            findDominators();
            for (int block = 0; block < program.blocks; block++) {
                findNearest(block);
                findFrontier(block);
            }
            Arrays.fill(depth, 0);
            for (int head = 0; head < program.blocks; head++) {
                countLoop(head);
            }
        }

        private boolean isAlive(int block) {
            return program.hasBlock(block) && isIn(alive, block);
        }

        private boolean dominates(int one, int other) {
            return isIn(dominators[other], one);
        }

        private void findEdges() {
            for (int block = 0; block < program.blocks; block++) {
                next[block] = 0;
                for (int edge = 0; edge < program.edges(block); edge++) {
                    next[block] |= 1 << program.target(block, edge);
                }
            }
            alive = program.blocks == 0 ? 0 : reachedFrom(0, 0);
            Arrays.fill(previous, 0);
            for (int from = 0; from < program.blocks; from++) {
                for (int edge = 0; edge < program.edges(from) && isIn(alive, from); edge++) {
                    previous[program.target(from, edge)] |= 1 << from;
                }
            }
        }

        /** The blocks that one reaches, itself too, by ways that come by no barred one. */
        private int reachedFrom(int block, int barred) {
            int found = 1 << block & ~barred;
            for (int round = 0; round < BLOCKS; round++) {
                int more = found;
                for (int from = 0; from < program.blocks; from++) {
                    if (isIn(found, from)) {
                        more |= next[from] & ~barred;
                    }
                }
                if (more == found) {
                    return found;
                }
                found = more;
            }
            return found;
        }

        private void findOrder() {
            gone = 0;
            count = 0;
            if (program.blocks > 0) {
                goThrough(0, 0);
            }
            for (int k = 0; k < count / 2; k++) {
                int kept = order[k];
                order[k] = order[count - 1 - k];
                order[count - 1 - k] = kept;
            }
        }

        private void goThrough(int block, int level) {
            if (isIn(gone, block) || level >= BLOCKS) {
                return;
            }
            gone |= 1 << block;
            for (int edge = 0; edge < program.edges(block); edge++) {
                goThrough(program.target(block, edge), level + 1);
            }
            order[count] = block;
            count++;
        }

        /** A block dominates just those that the entry does not reach without it: a dead one, none. */
        private void findDominators() {
            Arrays.fill(dominators, 0);
            for (int one = 0; one < program.blocks; one++) {
                int others = reachedFrom(0, 1 << one);
                for (int block = 0; block < program.blocks; block++) {
                    if (isIn(alive & ~others, block)) {
                        dominators[block] |= 1 << one;
                    }
                }
            }
        }

        private void findNearest(int block) {
            nearest[block] = NONE;
            int strict = dominators[block] & ~(1 << block);
            for (int one = 0; one < program.blocks; one++) {
                if (isIn(strict, one) && dominators[one] == strict) {
                    nearest[block] = one;
                }
            }
        }

        private void findFrontier(int block) {
            int left = 0;
            for (int from = 0; from < program.blocks; from++) {
                if (dominates(block, from)) {
                    left |= next[from];
                }
            }
            frontier[block] = 0;
            for (int c = 0; c < program.blocks; c++) {
                boolean strictly = c != block && dominates(block, c);
                if (isIn(left, c) && !strictly) {
                    frontier[block] |= 1 << c;
                }
            }
        }

        private void countLoop(int head) {
            int tails = 0;
            for (int from = 0; from < program.blocks; from++) {
                if (dominates(head, from) && isIn(next[from], head)) {
                    tails |= 1 << from;
                }
            }
            if (tails == 0) {
                return;
            }
            for (int block = 0; block < program.blocks; block++) {
                boolean turnsBack = (reachedFrom(block, 1 << head) & tails) != 0;
                if (isIn(alive, block) && (block == head || turnsBack)) {
                    depth[block]++;
                }
            }
        }
    }

    /** Where temporaries are live, and where their phis stand. Sets of temporaries are bits of an int. */
    private static final class Lives {
        private final Program program;
        private final Flow flow;
        private final int[] reads = new int[BLOCKS];
        private final int[] writes = new int[BLOCKS];
        private final int[] live = new int[BLOCKS];
        private final int[] phis = new int[BLOCKS];

        private Lives(Program program, Flow flow) {
            this.program = program;
            this.flow = flow;
        }

        private void lookAt() {
            for (int block = 0; block < program.blocks; block++) {
                findReadsAndWrites(block);
                live[block] = reads[block];
                phis[block] = 0;
            }
            // A way need not come by a block twice, so this many rounds carry a use to each of its ways.
            for (int round = 0; round < BLOCKS; round++) {
                for (int block = 0; block < program.blocks; block++) {
                    live[block] |= liveBehind(block) & ~writes[block];
                }
            }
            for (int t = 0; t < TEMPS; t++) {
                placePhis(t);
            }
        }

        private void findReadsAndWrites(int block) {
            int read = 0;
            int written = 0;
            for (int at = block * OPS; at < block * OPS + program.length[block]; at++) {
                read |= program.usedSet(at) & ~written;
                written |= program.madeSet(at);
            }
            reads[block] = read | program.usedAtEndSet(block) & ~written;
            writes[block] = written;
        }

        private int liveBehind(int block) {
            int behind = 0;
            for (int edge = 0; edge < program.edges(block); edge++) {
                behind |= live[program.target(block, edge)];
            }
            return behind;
        }

        private void placePhis(int t) {
            int sources = flow.alive & 1;
            for (int block = 0; block < program.blocks; block++) {
                if (isIn(flow.alive, block) && isIn(writes[block], t)) {
                    sources |= 1 << block;
                }
            }
            int meets = 0;
            for (int round = 0; round < BLOCKS; round++) {
                meets |= frontiersOf(sources | meets);
            }
            for (int block = 0; block < program.blocks; block++) {
                if (isIn(meets, block) && isIn(live[block], t)) {
                    phis[block] |= 1 << t;
                }
            }
        }

        private int frontiersOf(int blocks) {
            int all = 0;
            for (int block = 0; block < program.blocks; block++) {
                if (isIn(blocks, block)) {
                    all |= flow.frontier[block];
                }
            }
            return all;
        }
    }

    /** The program with each value named once: the names that operations, ends and edges take. */
    private static final class Names {
        private final Program program;
        private final Flow flow;
        private final Lives lives;
        private final int[] a = new int[BLOCKS * OPS];
        private final int[] b = new int[BLOCKS * OPS];
        private final int[] end = new int[BLOCKS];
        private final int[] behind = new int[BLOCKS * TEMPS];

        private Names(Program program, Flow flow, Lives lives) {
            this.program = program;
            this.flow = flow;
            this.lives = lives;
        }

        /** In the order a block's nearest dominator comes before it, and so has its names by then. */
        private void giveNames() {
            for (int k = 0; k < flow.count; k++) {
                int block = flow.order[k];
                for (int t = 0; t < TEMPS; t++) {
                    behind[block * TEMPS + t] = nameBefore(block, t);
                }
                nameOperations(block);
                end[block] = behind[block * TEMPS + program.endTemp[block]];
            }
        }

        private int nameBefore(int block, int t) {
            if (isIn(lives.phis[block], t)) {
                return phiName(block, t);
            }
            int above = flow.nearest[block];
            return above == NONE ? ZERO : behind[above * TEMPS + t];
        }

        private void nameOperations(int block) {
            int row = block * TEMPS;
            for (int at = block * OPS; at < block * OPS + program.length[block]; at++) {
                a[at] = program.takesA(at) ? behind[row + program.a[at]] : ZERO;
                b[at] = program.takesB(at) ? behind[row + program.b[at]] : ZERO;
                if (program.makesValue(at)) {
                    behind[row + program.d[at]] = madeName(at);
                }
            }
        }

        /** The name that a phi takes along an edge from a block. */
        private int along(int from, int t) {
            return behind[from * TEMPS + t];
        }
    }

    /** What each name stands for: itself, another name that it is a copy of, or a number. */
    private static final class Stands {
        private static final int UNKNOWN = 0;
        private static final int FOR_NAME = 1;
        private static final int FOR_NUMBER = 2;

        private final Program program;
        private final Flow flow;
        private final Lives lives;
        private final Names names;
        private final int[] how = new int[VALUES];
        private final int[] what = new int[VALUES];
        private final int[] phisOfTheirOwn = new int[BLOCKS];

        private Stands(Program program, Flow flow, Lives lives, Names names) {
            this.program = program;
            this.flow = flow;
            this.lives = lives;
            this.names = names;
        }

        private boolean isNumber(int name) {
            return how[name] == FOR_NUMBER;
        }

        private boolean isItself(int name) {
            return how[name] == FOR_NAME && what[name] == name;
        }

        private int nameFor(int name) {
            return how[name] == FOR_NAME ? what[name] : NONE;
        }

        private boolean keepsPhi(int block, int t) {
            return isIn(lives.phis[block], t) && isItself(phiName(block, t));
        }

        private boolean keepsOperation(int at) {
            return !program.makesValue(at) || isItself(madeName(at));
        }

        private void letAllBe() {
            for (int name = 0; name < VALUES; name++) {
                letBe(name);
            }
        }

        /**
         * All phis are taken for copies until what they take along two edges is seen to differ. What was
         * drawn from a wrong guess must not stay, so each round guesses anew; each but the last finds at
         * least one more phi that is a value of its own.
         */
        private void settle() {
            Arrays.fill(phisOfTheirOwn, 0);
            for (int round = 0; round <= BLOCKS * TEMPS; round++) {
                guess();
                if (!findWrongGuesses()) {
                    return;
                }
            }
        }

        private void guess() {
            Arrays.fill(how, UNKNOWN);
            letBeNumber(ZERO, 0);
            for (int k = 0; k < flow.count; k++) {
                int block = flow.order[k];
                for (int t = 0; t < TEMPS; t++) {
                    if (isIn(lives.phis[block], t)) {
                        guessPhi(block, t);
                    }
                }
                for (int at = block * OPS; at < block * OPS + program.length[block]; at++) {
                    guessOperation(at);
                }
            }
        }

        private boolean findWrongGuesses() {
            boolean found = false;
            for (int k = 0; k < flow.count; k++) {
                int block = flow.order[k];
                for (int t = 0; t < TEMPS; t++) {
                    boolean guessed = isIn(lives.phis[block] & ~phisOfTheirOwn[block], t);
                    if (guessed && takesOtherThan(phiName(block, t), block, t)) {
                        phisOfTheirOwn[block] |= 1 << t;
                        found = true;
                    }
                }
            }
            return found;
        }

        private void guessPhi(int block, int t) {
            int known = firstKnown(block, t);
            if (known == NONE || takesOtherThan(known, block, t)) {
                phisOfTheirOwn[block] |= 1 << t;
            }
            if (isIn(phisOfTheirOwn[block], t)) {
                letBe(phiName(block, t));
            } else {
                standLike(phiName(block, t), known);
            }
        }

        private int firstKnown(int block, int t) {
            if (block == 0) {
                return ZERO;
            }
            for (int from = 0; from < program.blocks; from++) {
                if (isIn(flow.previous[block], from) && how[names.along(from, t)] != UNKNOWN) {
                    return names.along(from, t);
                }
            }
            return NONE;
        }

        /** Whether a phi takes along some edge what is known to differ from what a name stands for. */
        private boolean takesOtherThan(int known, int block, int t) {
            for (int from = 0; from < program.blocks; from++) {
                if (isIn(flow.previous[block], from) && differ(known, names.along(from, t))) {
                    return true;
                }
            }
            return false;
        }

        private boolean differ(int known, int name) {
            return how[name] != UNKNOWN && (how[name] != how[known] || what[name] != what[known]);
        }

        private void guessOperation(int at) {
            int kind = program.kind[at];
            int name = madeName(at);
            if (kind == NUMBER) {
                letBeNumber(name, program.a[at]);
            } else if (kind == COPY) {
                standLike(name, names.a[at]);
            } else if (kind < READ && givesNumber(at)) {
                letBeNumber(name, reckon(kind, what[names.a[at]], what[names.b[at]]));
            } else if (program.makesValue(at)) {
                letBe(name);
            }
        }

        private boolean givesNumber(int at) {
            int a = names.a[at];
            int b = names.b[at];
            return isNumber(a) && isNumber(b) && !failsToDivide(program.kind[at], what[a], what[b]);
        }

        private void letBe(int name) {
            how[name] = FOR_NAME;
            what[name] = name;
        }

        private void letBeNumber(int name, int number) {
            how[name] = FOR_NUMBER;
            what[name] = number;
        }

        private void standLike(int name, int other) {
            how[name] = how[other];
            what[name] = what[other];
        }
    }

    /**
     * The cell in which each name is kept. The names that are live are those that live temporaries stand
     * for: a copy or a phi that is gone leaves its temporary standing for the name it was made from.
     */
    private static final class Homes {
        private final Program program;
        private final Flow flow;
        private final Lives lives;
        private final Names names;
        private final Stands stands;
        private final int[] home = new int[VALUES];
        private final long[] cost = new long[VALUES];
        private final int[] current = new int[TEMPS];
        private final int[] holder = new int[MOST_REGISTERS];
        private final int[] liveBehind = new int[OPS];
        private int firstSlot;
        private int scratch;
        private int shared;
        private boolean usesSlots;

        private Homes(Program program, Flow flow, Lives lives, Names names, Stands stands) {
            this.program = program;
            this.flow = flow;
            this.lives = lives;
            this.names = names;
            this.stands = stands;
        }

        private void giveEachItsOwn() {
            for (int name = 0; name < VALUES; name++) {
                home[name] = name;
            }
            firstSlot = CELLS;
        }

        /** Two registers are held back for names in slots, but only when not all names find a register. */
        private void shareRegisters(int registers) {
            firstSlot = FIRST_SLOT;
            scratch = registers - 2;
            findCosts();
            giveHomes(registers);
            if (usesSlots) {
                giveHomes(scratch);
            }
        }

        private boolean isSlot(int cell) {
            return cell >= firstSlot;
        }

        /** How often a name is made or used, where each loop round the place counts eightfold. */
        private void findCosts() {
            Arrays.fill(cost, 0L);
            for (int k = 0; k < flow.count; k++) {
                int block = flow.order[k];
                long weight = 1L << 3 * flow.depth[block];
                for (int at = block * OPS; at < block * OPS + program.length[block]; at++) {
                    if (stands.keepsOperation(at)) {
                        cost[madeName(at)] += weight;
                        addCost(names.a[at], weight);
                        addCost(names.b[at], weight);
                    }
                }
                if (program.endTakesTemp(block)) {
                    addCost(names.end[block], weight);
                }
                addCostsOfEdges(block, weight);
            }
        }

        private void addCostsOfEdges(int block, long weight) {
            for (int edge = 0; edge < program.edges(block); edge++) {
                int to = program.target(block, edge);
                for (int t = 0; t < TEMPS; t++) {
                    if (stands.keepsPhi(to, t)) {
                        cost[phiName(to, t)] += weight;
                        addCost(names.along(block, t), weight);
                    }
                }
            }
        }

        private void addCost(int name, long weight) {
            if (!stands.isNumber(name)) {
                cost[stands.what[name]] += weight;
            }
        }

        /**
         * Where two names are live at once, one of them is made while the other is live, and comes behind
         * it in the order; so it is enough to look at what is live where a name is made.
         */
        private void giveHomes(int registers) {
            shared = registers;
            usesSlots = false;
            Arrays.fill(home, NONE);
            for (int k = 0; k < flow.count; k++) {
                int block = flow.order[k];
                giveHomesToPhis(block);
                findLiveBehind(block);
                for (int i = 0; i < program.length[block]; i++) {
                    giveHomeToMade(block * OPS + i, liveBehind[i]);
                }
            }
        }

        private void giveHomesToPhis(int block) {
            for (int t = 0; t < TEMPS; t++) {
                current[t] = stands.nameFor(names.nameBefore(block, t));
            }
            for (int t = 0; t < TEMPS; t++) {
                if (stands.keepsPhi(block, t)) {
                    giveHome(phiName(block, t), lives.live[block]);
                }
            }
        }

        private void findLiveBehind(int block) {
            int live = lives.liveBehind(block) | program.usedAtEndSet(block);
            for (int i = program.length[block] - 1; i >= 0; i--) {
                int at = block * OPS + i;
                liveBehind[i] = live;
                live = live & ~program.madeSet(at) | program.usedSet(at);
            }
        }

        private void giveHomeToMade(int at, int live) {
            if (!program.makesValue(at)) {
                return;
            }
            current[program.d[at]] = stands.nameFor(madeName(at));
            if (stands.keepsOperation(at)) {
                giveHome(madeName(at), live);
            }
        }

        private void giveHome(int name, int live) {
            findHolders(live);
            int register = registerFor(name);
            if (register == NONE) {
                putInSlot(name);
                return;
            }
            if (holder[register] != NONE) {
                putInSlot(holder[register]);
            }
            home[name] = register;
        }

        private void findHolders(int live) {
            Arrays.fill(holder, NONE);
            for (int t = 0; t < TEMPS; t++) {
                if (isIn(live, t) && current[t] != NONE) {
                    int cell = home[current[t]];
                    if (cell >= 0 && cell < MOST_REGISTERS) {
                        holder[cell] = current[t];
                    }
                }
            }
        }

        /** A free register, or that of the name that costs least in a slot, if that is not the new one. */
        private int registerFor(int name) {
            int chosen = NONE;
            long least = cost[name];
            for (int register = 0; register < shared; register++) {
                if (holder[register] == NONE) {
                    return register;
                }
                if (cost[holder[register]] < least) {
                    least = cost[holder[register]];
                    chosen = register;
                }
            }
            return chosen;
        }

        private void putInSlot(int name) {
            home[name] = FIRST_SLOT + name;
            usesSlots = true;
        }
    }

    /** What the machine follows, at each stage: sections of operations on cells and numbers, and ends. */
    private static final class Code {
        // An operation needs at most three moves beside it, an end one; an edge at most ten moves of two
        // operations each, and for at most five rings among them two more each.
        private static final int MOST = BLOCKS * (OPS * 4 + 1) + 2 * BLOCKS * 30;

        private final int[] from = new int[SECTIONS];
        private final int[] to = new int[SECTIONS];
        private final int[] kind = new int[MOST];
        private final int[] d = new int[MOST];
        private final int[] a = new int[MOST];
        private final int[] b = new int[MOST];
        private final int[] form = new int[MOST];
        private final int[] end = new int[BLOCKS];
        private final boolean[] endIsNumber = new boolean[BLOCKS];
        private int length;

        private void clear() {
            length = 0;
            Arrays.fill(from, 0);
            Arrays.fill(to, 0);
        }

        private void begin(int section) {
            from[section] = length;
        }

        private void finish(int section) {
            to[section] = length;
        }

        private void add(int newKind, int newD, int newA, int newB, int newForm) {
            if (length == MOST) {
                return;
            }
            kind[length] = newKind;
            d[length] = newD;
            a[length] = newA;
            b[length] = newB;
            form[length] = newForm;
            length++;
        }

        private void addMove(int cell, int source, boolean isNumber) {
            add(COPY, cell, source, 0, B_IS_NUMBER | (isNumber ? A_IS_NUMBER : 0));
        }

        private void setEnd(int block, int cell, boolean isNumber) {
            end[block] = cell;
            endIsNumber[block] = isNumber;
        }
    }

    /** The moves of one edge, meant to be done at one time, put in a row that does the same. */
    private static final class Moves {
        private final Homes homes;
        private final Code code;
        private final int[] target = new int[TEMPS];
        private final int[] source = new int[TEMPS];
        private final boolean[] isNumber = new boolean[TEMPS];
        private int count;

        private Moves(Homes homes, Code code) {
            this.homes = homes;
            this.code = code;
        }

        private void add(int newTarget, int newSource, boolean newIsNumber) {
            boolean changesNothing = !newIsNumber && newTarget == newSource;
            if (changesNothing || count == TEMPS) {
                return;
            }
            target[count] = newTarget;
            source[count] = newSource;
            isNumber[count] = newIsNumber;
            count++;
        }

        /** Leaves no move. A ring is opened at most once for each move written, which bounds the turns. */
        private void write() {
            for (int turn = 0; turn < 2 * TEMPS && count > 0; turn++) {
                int ready = firstReady();
                if (ready == NONE) {
                    writeMove(SPARE, target[0], false);
                    readFromSpare(target[0]);
                } else {
                    writeMove(target[ready], source[ready], isNumber[ready]);
                    takeOut(ready);
                }
            }
        }

        private int firstReady() {
            for (int move = 0; move < count; move++) {
                if (!isStillRead(target[move])) {
                    return move;
                }
            }
            return NONE;
        }

        private boolean isStillRead(int cell) {
            for (int move = 0; move < count; move++) {
                if (!isNumber[move] && source[move] == cell) {
                    return true;
                }
            }
            return false;
        }

        private void readFromSpare(int cell) {
            for (int move = 0; move < count; move++) {
                if (!isNumber[move] && source[move] == cell) {
                    source[move] = SPARE;
                }
            }
        }

        private void takeOut(int move) {
            count--;
            target[move] = target[count];
            source[move] = source[count];
            isNumber[move] = isNumber[count];
        }

        private void writeMove(int cell, int from, boolean fromIsNumber) {
            if (homes.isSlot(cell) && (fromIsNumber || homes.isSlot(from))) {
                code.addMove(homes.scratch, from, fromIsNumber);
                code.addMove(cell, homes.scratch, false);
            } else {
                code.addMove(cell, from, fromIsNumber);
            }
        }
    }

    /** Writes the code of a stage. */
    private static final class Writer {
        private final Program program;
        private final Flow flow;
        private final Names names;
        private final Stands stands;
        private final Homes homes;
        private final Code code;
        private final Moves moves;

        private Writer(Program program, Flow flow, Names names, Stands stands, Homes homes, Code code) {
            this.program = program;
            this.flow = flow;
            this.names = names;
            this.stands = stands;
            this.homes = homes;
            this.code = code;
            this.moves = new Moves(homes, code);
        }

        private void writeAsItIs() {
            code.clear();
            for (int block = 0; block < program.blocks; block++) {
                code.begin(block);
                for (int at = block * OPS; at < block * OPS + program.length[block]; at++) {
                    code.add(program.kind[at], program.d[at], program.a[at], program.b[at], plainForm(at));
                }
                code.finish(block);
                code.setEnd(block, program.endTemp[block], false);
            }
        }

        private int plainForm(int at) {
            return (program.takesA(at) ? 0 : A_IS_NUMBER) | (program.takesB(at) ? 0 : B_IS_NUMBER);
        }

        /** The entry's phis need nothing written for the start: they take 0 then, as all cells have. */
        private void writeNamed() {
            code.clear();
            for (int k = 0; k < flow.count; k++) {
                int block = flow.order[k];
                writeBlock(block);
                for (int edge = 0; edge < program.edges(block); edge++) {
                    writeRoad(block, edge);
                }
            }
        }

        private void writeBlock(int block) {
            code.begin(block);
            for (int at = block * OPS; at < block * OPS + program.length[block]; at++) {
                if (stands.keepsOperation(at)) {
                    writeOperation(at);
                }
            }
            writeEnd(block);
            code.finish(block);
        }

        private void writeOperation(int at) {
            int kind = program.kind[at];
            int form = plainForm(at);
            int a = program.a[at];
            int b = program.b[at];
            if (program.takesA(at)) {
                form |= stands.isNumber(names.a[at]) ? A_IS_NUMBER : 0;
                a = bring(names.a[at], homes.scratch);
            }
            if (program.takesB(at)) {
                form |= stands.isNumber(names.b[at]) ? B_IS_NUMBER : 0;
                b = bring(names.b[at], homes.scratch + 1);
            }
            if (!program.makesValue(at)) {
                code.add(kind, 0, a, b, form);
                return;
            }
            int cell = homes.home[madeName(at)];
            if (homes.isSlot(cell)) {
                code.add(kind, homes.scratch, a, b, form);
                code.addMove(cell, homes.scratch, false);
            } else {
                code.add(kind, cell, a, b, form);
            }
        }

        /** The number that a name stands for, or the cell where it can be used, brought there if need be. */
        private int bring(int name, int scratch) {
            int stood = stands.what[name];
            if (stands.isNumber(name)) {
                return stood;
            }
            int cell = homes.home[stood];
            if (!homes.isSlot(cell)) {
                return cell;
            }
            code.addMove(scratch, cell, false);
            return scratch;
        }

        private void writeEnd(int block) {
            if (program.endTakesTemp(block)) {
                int name = names.end[block];
                code.setEnd(block, bring(name, homes.scratch), stands.isNumber(name));
            } else {
                code.setEnd(block, 0, true);
            }
        }

        private void writeRoad(int block, int edge) {
            for (int t = 0; t < TEMPS; t++) {
                addMove(program.target(block, edge), t, names.along(block, t));
            }
            code.begin(roadOf(block, edge));
            moves.write();
            code.finish(roadOf(block, edge));
        }

        private void addMove(int to, int t, int name) {
            if (!stands.keepsPhi(to, t)) {
                return;
            }
            int stood = stands.what[name];
            boolean isNumber = stands.isNumber(name);
            moves.add(homes.home[phiName(to, t)], isNumber ? stood : homes.home[stood], isNumber);
        }
    }

    /** Follows code, and keeps what the latest run told. */
    private static final class Machine {
        private static final int LOGGED = 200;
        private static final int LOG_WIDTH = 3;

        private final int[] cells = new int[CELLS];
        private final int[] words = new int[WORDS];
        private final int[] log = new int[LOGGED * LOG_WIDTH];
        private int returned;
        private int blocksEntered;
        private int callsMade;

        private int follow(Code code, Program program, int fuel) {
            begin(program.told);
            int at = 0;
            for (int left = fuel; left > 0; left--) {
                blocksEntered++;
                int ending = perform(code, at);
                if (ending != GOES_ON) {
                    return ending;
                }
                int shown = code.endIsNumber[at] ? code.end[at] : cells[code.end[at]];
                if (program.end[at] == RETURNS) {
                    returned = shown;
                    return RETURNED;
                }
                int edge = program.end[at] == BRANCHES && shown == 0 ? 1 : 0;
                perform(code, roadOf(at, edge));
                at = program.target(at, edge);
            }
            return FUEL;
        }

        private void begin(int[] told) {
            Arrays.fill(cells, 0);
            System.arraycopy(told, 0, words, 0, WORDS);
            returned = 0;
            blocksEntered = 0;
            callsMade = 0;
        }

        private int perform(Code code, int section) {
            for (int at = code.from[section]; at < code.to[section]; at++) {
                int ending = performOne(code, at);
                if (ending != GOES_ON) {
                    return ending;
                }
            }
            return GOES_ON;
        }

        private int performOne(Code code, int at) {
            int kind = code.kind[at];
            int d = code.d[at];
            int a = (code.form[at] & A_IS_NUMBER) != 0 ? code.a[at] : cells[code.a[at]];
            int b = (code.form[at] & B_IS_NUMBER) != 0 ? code.b[at] : cells[code.b[at]];
            if (failsToDivide(kind, a, b)) {
                return DIVISION;
            }
            if (kind == READ && !isWord(a) || kind == WRITE && !isWord(b)) {
                return ADDRESS;
            }
            if (kind == READ) {
                cells[d] = words[a];
            } else if (kind == WRITE) {
                words[b] = a;
            } else if (kind == CALL) {
                cells[d] = callOut(b, a);
            } else {
                cells[d] = reckon(kind, a, b);
            }
            return GOES_ON;
        }

        private int callOut(int number, int with) {
            int made = with * 31 + number + 7 * callsMade;
            if (callsMade < LOGGED) {
                log[callsMade * LOG_WIDTH] = number;
                log[callsMade * LOG_WIDTH + 1] = with;
                log[callsMade * LOG_WIDTH + 2] = made;
            }
            callsMade++;
            return made;
        }

        private int told(int k, int what) {
            boolean isLogged = k >= 0 && k < LOGGED && k < callsMade;
            return isLogged && what >= 0 && what < LOG_WIDTH ? log[k * LOG_WIDTH + what] : 0;
        }
    }
}
