import java.util.function.ToLongFunction;

/**
 * One TierStore whose answers are compared with the ones that are due.
 *
 * <p>The document promises nothing after the 512th call of an object, so a run that makes more of
 * them proves nothing, and is counted as a fault of the test.
 */
final class Run {
    static final int DONE = 0;
    static final int REFUSED = -1;
    static final int FULL = -2;
    static final int GONE = -3;
    static final int ABSENT = 0;
    static final int RESIDENT = 1;
    static final int DOUBLE = 2;
    static final int STUB = 3;
    static final int LOST = 4;
    static final long NONE = -1000000000000L;
    static final long NO_ROOM = -2000000000000L;
    static final long NO_FILE = -3000000000000L;
    static final int FILES = 16;
    static final int CARTRIDGES = 4;
    static final int NO_CARTRIDGE = -1;

    private static final int MOST_CALLS = 512;

    private final Check check;
    private final TierStore store;
    private int calls = 0;

    Run(Check check, int room, int length) {
        this.check = check;
        this.store = new TierStore(room, length);
    }

    int calls() {
        return calls;
    }

    long answer(ToLongFunction<TierStore> call) {
        calls++;
        check.atMost("calls of one run", calls, MOST_CALLS);
        return call.applyAsLong(store);
    }

    private void due(String call, long want, ToLongFunction<TierStore> asked) {
        check.due(call, answer(asked), want);
    }

    void create(int file, int length, int want) {
        due("create(" + file + ", " + length + ")", want, x -> x.create(file, length));
    }

    void write(int file, int i, int value, int want) {
        due("write(" + file + ", " + i + ", " + value + ")", want, x -> x.write(file, i, value));
    }

    void read(int file, int i, long want) {
        due("read(" + file + ", " + i + ")", want, x -> x.read(file, i));
    }

    void remove(int file, int want) {
        due("remove(" + file + ")", want, x -> x.remove(file));
    }

    void backUp(int want) {
        due("backUp()", want, x -> x.backUp());
    }

    void tidy(int high, int low, int want) {
        due("tidy(" + high + ", " + low + ")", want, x -> x.tidy(high, low));
    }

    void ask(int file, int want) {
        due("ask(" + file + ")", want, x -> x.ask(file));
    }

    void serve(int want) {
        due("serve()", want, x -> x.serve());
    }

    void empty(int cartridge, int want) {
        due("empty(" + cartridge + ")", want, x -> x.empty(cartridge));
    }

    void lose(int cartridge, int want) {
        due("lose(" + cartridge + ")", want, x -> x.lose(cartridge));
    }

    void file(int file, int what, int want) {
        due("file(" + file + ", " + what + ")", want, x -> x.file(file, what));
    }

    void cartridge(int cartridge, int what, int want) {
        due("cartridge(" + cartridge + ", " + what + ")", want, x -> x.cartridge(cartridge, what));
    }

    void count(int what, int want) {
        due("count(" + what + ")", want, x -> x.count(what));
    }

    /** Creates the files first, first + 1 and so on, one of each length. */
    void createFrom(int first, int... lengths) {
        for (int k = 0; k < lengths.length; k++) {
            create(first + k, lengths[k], DONE);
        }
    }

    /** Creates files as createFrom does and backs each up at once: no other may be RESIDENT. */
    void createAndBackUpFrom(int first, int... lengths) {
        for (int k = 0; k < lengths.length; k++) {
            create(first + k, lengths[k], DONE);
            backUp(first + k);
        }
    }

    void backUps(int... wanted) {
        for (int file : wanted) {
            backUp(file);
        }
    }

    void asks(int... files) {
        for (int file : files) {
            ask(file, DONE);
        }
    }

    void state(int file, int want) {
        file(file, 0, want);
    }

    /** The states of the files 0, 1 and so on. */
    void states(int... wanted) {
        for (int file = 0; file < wanted.length; file++) {
            state(file, wanted[file]);
        }
    }

    void copyAt(int file, int cartridge, int place) {
        file(file, 2, cartridge);
        file(file, 3, place);
    }

    void noCopy(int file) {
        copyAt(file, REFUSED, REFUSED);
    }

    void waits(int file, boolean want) {
        file(file, 4, want ? 1 : 0);
    }

    /** All files that are not absent, the one that was used longest ago first. */
    void usedInOrder(int... files) {
        for (int k = 0; k < files.length; k++) {
            file(files[k], 5, files.length - 1 - k);
        }
    }

    void ends(int... wanted) {
        for (int cartridge = 0; cartridge < wanted.length; cartridge++) {
            cartridge(cartridge, 0, wanted[cartridge]);
        }
    }

    void live(int... wanted) {
        for (int cartridge = 0; cartridge < wanted.length; cartridge++) {
            cartridge(cartridge, 1, wanted[cartridge]);
        }
    }

    void drive(int held, int head, int cost) {
        for (int cartridge = 0; cartridge < CARTRIDGES; cartridge++) {
            cartridge(cartridge, 2, cartridge == held ? 1 : 0);
        }
        count(2, head);
        count(1, cost);
    }

    void taken(int want) {
        count(0, want);
    }

    void cost(int want) {
        count(1, want);
    }

    void waiting(int want) {
        count(3, want);
    }
}
