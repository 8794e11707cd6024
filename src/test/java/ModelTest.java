import java.util.Random;

/**
 * Random runs of at most 512 calls, each answer compared with the Model's, with a look at the whole visible
 * state and then at all cells where the run ends. A run ends after any number of calls, so that over all
 * runs the look follows each call in many states.
 */
public final class ModelTest {
    private static final int RUNS = 30000;
    private static final int MOST_REPORTS = 20;
    private static final int LOOK = Step.QUESTIONS.size() + Step.READS.size();
    private static final String[] CORNERS = {"create is FULL", "write is FULL", "read is NO_ROOM", "backUp is FULL",
        "ask is FULL", "empty is FULL", "write is GONE", "read is NO_FILE"};

    private final Random random;
    private final Twins twins;
    private final Chooser chooser;
    /** What a run is inclined to do: with other weights, other corners are reached. */
    private final int[] weights = new int[Step.KINDS];

    private ModelTest(long seed) {
        random = new Random(seed);
        twins = new Twins(size(4, 24), size(4, 20));
        chooser = new Chooser(random, twins.model(), 25);
        for (int kind = 0; kind < weights.length; kind++) {
            weights[kind] = 1 + random.nextInt(12);
        }
        weights[Step.REMOVE] = 1 + weights[Step.REMOVE] / 3;
        weights[Step.LOSE] = 1 + weights[Step.LOSE] / 6;
    }

    public static void main(String[] args) {
        int wrong = 0;
        int[] reached = new int[CORNERS.length];
        for (int seed = 0; seed < RUNS && wrong < MOST_REPORTS; seed++) {
            String fault = new ModelTest(seed).run(reached);
            if (fault != null) {
                wrong++;
                System.out.println("seed " + seed + ": " + fault);
            }
        }
        for (int k = 0; k < reached.length; k++) {
            if (reached[k] == 0) {
                wrong++;
                System.out.println("in no run " + CORNERS[k]);
            }
        }
        System.out.println(RUNS + " random runs, " + wrong + " faults");
        if (wrong != 0) {
            System.exit(1);
        }
    }

    /** Mostly within the limits, now and then a little or far outside of them. */
    private int size(int least, int most) {
        int[] odd = {least - 1, most + 1, 0, -1, Integer.MIN_VALUE, Integer.MAX_VALUE};
        return random.nextInt(10) == 0 ? odd[random.nextInt(odd.length)] : least + random.nextInt(most - least + 1);
    }

    private String run(int[] reached) {
        int before = random.nextInt(twins.callsLeft() - LOOK + 1);
        for (int call = 0; call < before; call++) {
            if (random.nextInt(4) == 0) {
                twins.make(chooser.question());
            } else {
                int kind = chooser.kind(weights);
                countCorner(kind, twins.make(chooser.choose(kind)), reached);
            }
        }
        twins.askAll();
        twins.readAll();
        return twins.fault();
    }

    private static void countCorner(int kind, long answer, int[] reached) {
        int[] fullOf = {Step.CREATE, Step.WRITE, Step.READ, Step.BACK_UP, Step.ASK, Step.EMPTY};
        for (int corner = 0; corner < fullOf.length; corner++) {
            boolean full = answer == (kind == Step.READ ? TierStore.NO_ROOM : TierStore.FULL);
            reached[corner] += kind == fullOf[corner] && full ? 1 : 0;
        }
        reached[6] += kind == Step.WRITE && answer == TierStore.GONE ? 1 : 0;
        reached[7] += kind == Step.READ && answer == TierStore.NO_FILE ? 1 : 0;
    }
}
