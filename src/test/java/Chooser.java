import java.util.Random;
import java.util.function.IntPredicate;

/**
 * Picks the numbers of a call so that it is likely to change something as the store stands, which is looked
 * up in the Model: so the store is asked nothing for it. Now and then the numbers are odd ones.
 */
final class Chooser {
    private static final int[] ODD = {-1, 0, 4, 5, 6, 16, 24, 25, Integer.MIN_VALUE, Integer.MAX_VALUE};

    private final Random random;
    private final Model model;
    /** One number of this many is odd; 0 for none. */
    private final int oddOneOf;

    Chooser(Random random, Model model, int oddOneOf) {
        this.random = random;
        this.model = model;
        this.oddOneOf = oddOneOf;
    }

    /** One of the kinds, each as often as its weight says. */
    int kind(int[] weights) {
        int sum = 0;
        for (int weight : weights) {
            sum += weight;
        }
        int left = random.nextInt(sum);
        int kind = 0;
        while (left >= weights[kind]) {
            left -= weights[kind];
            kind++;
        }
        return kind;
    }

    Step choose(int kind) {
        switch (kind) {
            case Step.CREATE:
                return Step.create(number(file(f -> state(f) == 0)), number(1 + random.nextInt(Step.CELLS)));
            case Step.WRITE:
                int written = present();
                return Step.write(number(written), number(cellOf(written)), random.nextInt());
            case Step.READ:
                int read = present();
                return Step.read(number(read), number(cellOf(read)));
            case Step.REMOVE:
                return Step.remove(number(file(f -> state(f) != 0)));
            case Step.BACK_UP:
                return Step.backUp();
            case Step.TIDY:
                int most = Math.max(0, model.count(0) - 1);
                int high = most - (random.nextBoolean() ? 0 : random.nextInt(most + 1));
                int low = random.nextBoolean() ? high : random.nextInt(high + 1);
                return Step.tidy(number(high), number(low));
            case Step.ASK:
                return Step.ask(number(file(f -> state(f) == 3 && model.file(f, 4) == 0)));
            case Step.SERVE:
                return Step.serve();
            case Step.EMPTY:
                return Step.empty(number(usedCartridge()));
            default:
                return Step.lose(number(usedCartridge()));
        }
    }

    Step question() {
        switch (random.nextInt(3)) {
            case 0:
                return Step.file(number(random.nextInt(Step.FILES)), number(random.nextInt(6)));
            case 1:
                return Step.cartridge(number(random.nextInt(Step.CARTRIDGES)), number(random.nextInt(3)));
            default:
                return Step.count(number(random.nextInt(4)));
        }
    }

    private int number(int fitting) {
        return oddOneOf > 0 && random.nextInt(oddOneOf) == 0 ? ODD[random.nextInt(ODD.length)] : fitting;
    }

    private int state(int file) {
        return model.file(file, 0);
    }

    /** STUBs more often than the others, since there is most to be seen when one is brought back. */
    private int present() {
        return random.nextBoolean() ? file(f -> state(f) == 3) : file(f -> state(f) != 0);
    }

    private int cellOf(int file) {
        return random.nextInt(Math.max(1, model.file(file, 1)));
    }

    private int file(IntPredicate wanted) {
        return oneOf(Step.FILES, wanted);
    }

    private int usedCartridge() {
        return oneOf(Step.CARTRIDGES, c -> model.cartridge(c, 0) > 0);
    }

    /** Any number below the bound if there is none that is wanted. */
    private int oneOf(int bound, IntPredicate wanted) {
        int start = random.nextInt(bound);
        for (int k = 0; k < bound; k++) {
            int candidate = (start + k) % bound;
            if (wanted.test(candidate)) {
                return candidate;
            }
        }
        return start;
    }
}
