import java.util.ArrayList;
import java.util.List;
import java.util.function.ToLongFunction;

/** One call that can be made on a store and, in the same way, on the Model. */
record Step(String name, ToLongFunction<TierStore> onStore, ToLongFunction<Model> onModel) {
    /** The ten calls that may change something, by the numbers that a Chooser knows them by. */
    static final int CREATE = 0;
    static final int WRITE = 1;
    static final int READ = 2;
    static final int REMOVE = 3;
    static final int BACK_UP = 4;
    static final int TIDY = 5;
    static final int ASK = 6;
    static final int SERVE = 7;
    static final int EMPTY = 8;
    static final int LOSE = 9;
    static final int KINDS = 10;

    static final int FILES = 16;
    static final int CELLS = 4;
    static final int CARTRIDGES = 4;

    /** Each question with numbers in range: none of them may change anything. */
    static final List<Step> QUESTIONS = questions();

    /** A read of each cell that a file could have. */
    static final List<Step> READS = reads();

    static Step create(int file, int length) {
        return new Step("create(" + file + ", " + length + ")", x -> x.create(file, length), x -> x.create(file, length));
    }

    static Step write(int file, int i, int value) {
        return new Step("write(" + file + ", " + i + ", " + value + ")", x -> x.write(file, i, value),
            x -> x.write(file, i, value));
    }

    static Step read(int file, int i) {
        return new Step("read(" + file + ", " + i + ")", x -> x.read(file, i), x -> x.read(file, i));
    }

    static Step remove(int file) {
        return new Step("remove(" + file + ")", x -> x.remove(file), x -> x.remove(file));
    }

    static Step backUp() {
        return new Step("backUp()", x -> x.backUp(), x -> x.backUp());
    }

    static Step tidy(int high, int low) {
        return new Step("tidy(" + high + ", " + low + ")", x -> x.tidy(high, low), x -> x.tidy(high, low));
    }

    static Step ask(int file) {
        return new Step("ask(" + file + ")", x -> x.ask(file), x -> x.ask(file));
    }

    static Step serve() {
        return new Step("serve()", x -> x.serve(), x -> x.serve());
    }

    static Step empty(int cartridge) {
        return new Step("empty(" + cartridge + ")", x -> x.empty(cartridge), x -> x.empty(cartridge));
    }

    static Step lose(int cartridge) {
        return new Step("lose(" + cartridge + ")", x -> x.lose(cartridge), x -> x.lose(cartridge));
    }

    static Step file(int file, int what) {
        return new Step("file(" + file + ", " + what + ")", x -> x.file(file, what), x -> x.file(file, what));
    }

    static Step cartridge(int cartridge, int what) {
        return new Step("cartridge(" + cartridge + ", " + what + ")", x -> x.cartridge(cartridge, what),
            x -> x.cartridge(cartridge, what));
    }

    static Step count(int what) {
        return new Step("count(" + what + ")", x -> x.count(what), x -> x.count(what));
    }

    private static List<Step> questions() {
        List<Step> steps = new ArrayList<>();
        for (int file = 0; file < FILES; file++) {
            for (int what = 0; what < 6; what++) {
                steps.add(file(file, what));
            }
        }
        for (int cartridge = 0; cartridge < CARTRIDGES; cartridge++) {
            for (int what = 0; what < 3; what++) {
                steps.add(cartridge(cartridge, what));
            }
        }
        for (int what = 0; what < 4; what++) {
            steps.add(count(what));
        }
        return steps;
    }

    private static List<Step> reads() {
        List<Step> steps = new ArrayList<>();
        for (int file = 0; file < FILES; file++) {
            for (int i = 0; i < CELLS; i++) {
                steps.add(read(file, i));
            }
        }
        return steps;
    }
}
