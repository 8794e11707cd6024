import java.util.Random;

/** Random runs of calls, each answer and the whole visible state compared with the Model's. */
public final class ModelTest {
    private static final int RUNS = 1500;
    private static final int CALLS = 512;
    private static final int MOST_REPORTS = 20;
    private static final int[] ODD = {-1, 4, 5, 16, 25, Integer.MIN_VALUE, Integer.MAX_VALUE};

    private final Random random;
    private final TierStore store;
    private final Model model;
    /** What a run is inclined to do: with other weights, other corners are reached. */
    private final int[] weights;
    private final int filesInUse;
    private String lastCall = "";

    private ModelTest(long seed) {
        random = new Random(seed);
        int room = random.nextInt(10) == 0 ? odd() : 4 + random.nextInt(21);
        int length = random.nextInt(10) == 0 ? odd() : 4 + random.nextInt(17);
        store = new TierStore(room, length);
        model = new Model(room, length);
        filesInUse = 3 + random.nextInt(14);
        weights = new int[10];
        for (int k = 0; k < weights.length; k++) {
            weights[k] = 1 + random.nextInt(12);
        }
        weights[3] = 1 + weights[3] / 3;
        weights[9] = 1 + weights[9] / 6;
    }

    public static void main(String[] args) {
        int wrong = 0;
        int[] reached = new int[6];
        for (int seed = 0; seed < RUNS && wrong < MOST_REPORTS; seed++) {
            String fault = new ModelTest(seed).run(reached);
            if (fault != null) {
                wrong++;
                System.out.println("seed " + seed + ": " + fault);
            }
        }
        for (int k = 0; k < reached.length; k++) {
            if (reached[k] == 0) {
                wrong++;
                System.out.println("the runs never reached corner " + k);
            }
        }
        System.out.println(RUNS + " random runs, " + wrong + " faults");
        if (wrong != 0) {
            System.exit(1);
        }
    }

    private int odd() {
        return ODD[random.nextInt(ODD.length)];
    }

    private int pick(int bound) {
        return random.nextInt(40) == 0 ? odd() : random.nextInt(bound);
    }

    private int pickKind() {
        int sum = 0;
        for (int w : weights) {
            sum += w;
        }
        int left = random.nextInt(sum);
        int kind = 0;
        while (left >= weights[kind]) {
            left -= weights[kind];
            kind++;
        }
        return kind;
    }

    private String run(int[] reached) {
        for (int call = 0; call < CALLS; call++) {
            long[] answers = oneCall(pickKind(), reached);
            if (answers[0] != answers[1]) {
                return "call " + call + " " + lastCall + " answered " + answers[0] + ", due is " + answers[1];
            }
            String difference = difference();
            if (difference != null) {
                return "after call " + call + " " + lastCall + ": " + difference;
            }
        }
        return null;
    }

    private long[] oneCall(int kind, int[] reached) {
        int f = pick(filesInUse);
        int i = pick(4);
        int c = pick(4);
        switch (kind) {
            case 0:
                int n = 1 + pick(4);
                lastCall = "create(" + f + ", " + n + ")";
                return pair(store.create(f, n), model.create(f, n), reached, 0, -2);
            case 1:
                int value = random.nextInt();
                lastCall = "write(" + f + ", " + i + ", " + value + ")";
                return pair(store.write(f, i, value), model.write(f, i, value), reached, 1, -2);
            case 2:
                lastCall = "read(" + f + ", " + i + ")";
                return pair(store.read(f, i), model.read(f, i), reached, 2, TierStore.NO_ROOM);
            case 3:
                lastCall = "remove(" + f + ")";
                return new long[] {store.remove(f), model.remove(f)};
            case 4:
                lastCall = "backUp()";
                return pair(store.backUp(), model.backUp(), reached, 3, -2);
            case 5:
                int high = pick(25);
                int low = random.nextInt(4) == 0 ? pick(25) : random.nextInt(Math.max(1, Math.min(24, high) + 1));
                lastCall = "tidy(" + high + ", " + low + ")";
                return new long[] {store.tidy(high, low), model.tidy(high, low)};
            case 6:
                lastCall = "ask(" + f + ")";
                return pair(store.ask(f), model.ask(f), reached, 4, -2);
            case 7:
                lastCall = "serve()";
                return new long[] {store.serve(), model.serve()};
            case 8:
                lastCall = "empty(" + c + ")";
                return pair(store.empty(c), model.empty(c), reached, 5, -2);
            default:
                lastCall = "lose(" + c + ")";
                return new long[] {store.lose(c), model.lose(c)};
        }
    }

    private static long[] pair(long got, long want, int[] reached, int corner, long edge) {
        reached[corner] += want == edge ? 1 : 0;
        return new long[] {got, want};
    }

    private String difference() {
        for (int f = -1; f <= 16; f++) {
            for (int what = -1; what <= 6; what++) {
                if (store.file(f, what) != model.file(f, what)) {
                    return told("file(" + f + ", " + what + ")", store.file(f, what), model.file(f, what));
                }
            }
        }
        for (int c = -1; c <= 4; c++) {
            for (int what = -1; what <= 3; what++) {
                if (store.cartridge(c, what) != model.cartridge(c, what)) {
                    return told("cartridge(" + c + ", " + what + ")", store.cartridge(c, what), model.cartridge(c, what));
                }
            }
        }
        for (int what = -1; what <= 4; what++) {
            if (store.count(what) != model.count(what)) {
                return told("count(" + what + ")", store.count(what), model.count(what));
            }
        }
        return null;
    }

    private static String told(String call, int got, int want) {
        return call + " answered " + got + ", due is " + want;
    }
}
