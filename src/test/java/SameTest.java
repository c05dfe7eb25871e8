import java.util.Random;

/**
 * That each stage does the same as stage 0: in every {@link Small} program of up to three blocks, and in
 * many drawn ones of up to ten, with 2 to 8 registers. RandomTest asks the same of programs that are
 * changed between their runs.
 */
public final class SameTest {
    private static final int DRAWN = 2500;
    private static final int MOST_BLOCKS = 3;
    private static final int FEW = 5;
    private static final int STAGES = 4;
    private static final int LEAST_REGISTERS = 2;
    private static final int MOST_REGISTERS = 8;

    private final Expect e = new Expect();
    private final int[] endings = new int[4];

    public static void main(String[] args) {
        SameTest test = new SameTest();
        test.e.about("each stage does the same");
        test.smallOnes();
        for (int seed = 0; seed < DRAWN && test.e.wrong() < 20; seed++) {
            test.drawn(seed);
        }
        System.out.println("the drawn ones ended " + java.util.Arrays.toString(test.endings));
        for (int ending = 0; ending < test.endings.length; ending++) {
            test.e.due("many drawn ones end with " + ending, test.endings[ending] > DRAWN / 50, true);
        }
        test.e.finish();
    }

    private void smallOnes() {
        for (int blocks = 1; blocks <= MOST_BLOCKS; blocks++) {
            for (int index = 0; index < Small.count(blocks) && e.wrong() < 20; index++) {
                Small program = Small.at(blocks, index);
                ValueMill mill = program.told();
                int[] asItIs = seenOf(mill, 0);
                for (int stage = 1; stage < STAGES; stage++) {
                    e.due(program + "at stage " + stage, seenOf(mill, stage), asItIs);
                }
            }
        }
    }

    /** A block makes at most one call, so that there are no more calls than fuel. */
    private static int[] seenOf(ValueMill mill, int stage) {
        int[] seen = new int[4 + FEW];
        seen[0] = mill.run(stage, LEAST_REGISTERS, FEW);
        seen[1] = mill.value();
        seen[2] = mill.entered();
        seen[3] = mill.calls();
        for (int k = 0; k < FEW; k++) {
            seen[4 + k] = mill.call(k, 2);
        }
        return seen;
    }

    /** Each run has an object of its own, so that all that it told can be seen within 512 calls. */
    private void drawn(int seed) {
        Random random = new Random(seed);
        Drawer.Plan plan = Drawer.plan(random);
        int fuel = random.nextInt(10) == 0 ? 500 : random.nextInt(40);
        ValueMill asItIs = plan.told();
        int ending = asItIs.run(0, LEAST_REGISTERS, fuel);
        int[] told = View.TOLD.of(asItIs);
        endings[ending]++;
        for (int stage = 0; stage < STAGES; stage++) {
            for (int registers = LEAST_REGISTERS; registers <= MOST_REGISTERS; registers++) {
                ValueMill mill = plan.told();
                String run = "seed " + seed + ": run(" + stage + ", " + registers + ", " + fuel + ")";
                e.due(run, mill.run(stage, registers, fuel), ending);
                e.due(run + " told", View.TOLD.of(mill), told);
            }
        }
    }
}
