import java.util.Random;

/**
 * The ten calls that change something follow each other in all orders: each three of them one after another,
 * out of many states, and long runs in which all ten come again and again, each round in another order. Each
 * answer is compared with the Model's, and so is all that can be asked and read at the end.
 */
public final class OrdersTest {
    private static final int OPENINGS = 50;
    private static final int OPENING_CALLS = 45;
    private static final int LONG_RUNS = 3000;
    private static final int ROUNDS = 33;
    private static final int MOST_REPORTS = 20;
    private static final int KINDS = Step.KINDS;

    /** An opening has much on cartridges and little that is removed or lost. */
    private static final int[] OPENING_WEIGHTS = {9, 6, 3, 1, 9, 4, 5, 1, 1, 1};

    private static int wrong = 0;
    private static final boolean[] TOOK_EFFECT = new boolean[KINDS * KINDS * KINDS];

    public static void main(String[] args) {
        for (int opening = 0; opening < OPENINGS; opening++) {
            for (int three = 0; three < TOOK_EFFECT.length && wrong < MOST_REPORTS; three++) {
                threeAfter(opening, three);
            }
        }
        for (int seed = 0; seed < LONG_RUNS && wrong < MOST_REPORTS; seed++) {
            rounds(seed);
        }
        eachThreeTookEffect();
        System.out.println(OPENINGS * TOOK_EFFECT.length + " runs of three calls, " + LONG_RUNS + " long runs, " + wrong
            + " faults");
        if (wrong != 0) {
            System.exit(1);
        }
    }

    private static void report(String fault) {
        if (fault != null) {
            wrong++;
            System.out.println(fault);
        }
    }

    private static void threeAfter(int opening, int three) {
        Random random = new Random(opening);
        Twins twins = new Twins(4 + random.nextInt(21), 4 + random.nextInt(17));
        Chooser chooser = new Chooser(random, twins.model(), 0);
        for (int call = 0; call < OPENING_CALLS; call++) {
            twins.make(chooser.choose(chooser.kind(OPENING_WEIGHTS)));
        }
        boolean tookEffect = true;
        for (int kind : new int[] {three / (KINDS * KINDS), three / KINDS % KINDS, three % KINDS}) {
            tookEffect &= tookEffect(kind, twins.make(chooser.choose(kind)));
        }
        TOOK_EFFECT[three] |= tookEffect;
        twins.askAll();
        twins.readAll();
        twins.askAll();
        report(twins.fault());
    }

    private static boolean tookEffect(int kind, long answer) {
        switch (kind) {
            case Step.READ:
                return answer > TierStore.NONE;
            case Step.TIDY:
            case Step.SERVE:
            case Step.EMPTY:
                return answer > 0;
            default:
                return answer >= 0;
        }
    }

    private static void rounds(int seed) {
        Random random = new Random(seed);
        Twins twins = new Twins(4 + random.nextInt(21), 4 + random.nextInt(17));
        Chooser chooser = new Chooser(random, twins.model(), 0);
        int[] order = new int[KINDS];
        for (int kind = 0; kind < KINDS; kind++) {
            order[kind] = kind;
        }
        for (int round = 0; round < ROUNDS; round++) {
            shuffle(order, random);
            for (int kind : order) {
                twins.make(chooser.choose(kind));
            }
        }
        twins.askAll();
        twins.readAll();
        report(twins.fault());
    }

    private static void shuffle(int[] order, Random random) {
        for (int k = order.length - 1; k > 0; k--) {
            int other = random.nextInt(k + 1);
            int kept = order[k];
            order[k] = order[other];
            order[other] = kept;
        }
    }

    /** Without this the runs could be full of refused calls, and nobody would see it. */
    private static void eachThreeTookEffect() {
        for (int three = 0; three < TOOK_EFFECT.length; three++) {
            int first = three / (KINDS * KINDS);
            int second = three / KINDS % KINDS;
            int third = three % KINDS;
            if (!TOOK_EFFECT[three] && !isServedForNobody(first, second, third)) {
                report("the calls " + first + ", " + second + " and " + third + " never all took effect");
            }
        }
    }

    /** After serve nobody waits, so that another serve has something to bring back only after an ask. */
    private static boolean isServedForNobody(int first, int second, int third) {
        boolean twiceAtOnce = second == Step.SERVE && (first == Step.SERVE || third == Step.SERVE);
        return twiceAtOnce || first == Step.SERVE && second != Step.ASK && third == Step.SERVE;
    }
}
