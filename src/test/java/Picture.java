import java.util.ArrayList;
import java.util.Arrays;
import java.util.List;
import java.util.function.Consumer;

/**
 * All that a store must show after a run of calls: every answer of file, cartridge and count, and every
 * cell that read answers.
 *
 * <p>The files are told from the one that was used longest ago to the one that was used last, so that the
 * order of use is told as well. What follows from the files (units taken, live units, how many wait) is
 * added up here from what was told, not asked of the store.
 */
final class Picture {
    private static final int CELLS = 4;

    private static final class Shown {
        final int file;
        final int state;
        final int length;
        final int cartridge;
        final int place;
        final long[] reads;
        boolean waits = false;

        Shown(int file, int state, int cartridge, int place, long[] reads) {
            this.file = file;
            this.state = state;
            this.length = reads.length;
            this.cartridge = cartridge;
            this.place = place;
            this.reads = reads;
        }

        boolean isOnDisk() {
            return state == Run.RESIDENT || state == Run.DOUBLE;
        }
    }

    private final List<Shown> shown = new ArrayList<>();
    private int[] ends = new int[Run.CARTRIDGES];
    private int held = Run.NO_CARTRIDGE;
    private int head = 0;
    private int cost = 0;

    Picture resident(int file, long... cells) {
        shown.add(new Shown(file, Run.RESIDENT, Run.REFUSED, Run.REFUSED, cells));
        return this;
    }

    Picture doubled(int file, int cartridge, int place, long... cells) {
        shown.add(new Shown(file, Run.DOUBLE, cartridge, place, cells));
        return this;
    }

    Picture stub(int file, int cartridge, int place, long... cells) {
        shown.add(new Shown(file, Run.STUB, cartridge, place, cells));
        return this;
    }

    /** A STUB that can't be brought back as the disk is: its cells can't be read. */
    Picture stubWithoutRoom(int file, int cartridge, int place, int length) {
        shown.add(new Shown(file, Run.STUB, cartridge, place, repeated(Run.NO_ROOM, length)));
        return this;
    }

    Picture lost(int file, int length) {
        shown.add(new Shown(file, Run.LOST, Run.REFUSED, Run.REFUSED, repeated(Run.NO_FILE, length)));
        return this;
    }

    /** The file that was told last waits. */
    Picture waits() {
        shown.get(shown.size() - 1).waits = true;
        return this;
    }

    Picture ends(int... wanted) {
        ends = wanted;
        return this;
    }

    Picture drive(int wantedHeld, int wantedHead, int wantedCost) {
        held = wantedHeld;
        head = wantedHead;
        cost = wantedCost;
        return this;
    }

    private static long[] repeated(long answer, int times) {
        long[] row = new long[times];
        Arrays.fill(row, answer);
        return row;
    }

    /**
     * Makes the calls on a new store, and compares what is seen then.
     *
     * <p>The questions are asked twice, since they must not change anything. A read may bring a file back,
     * so each file is read in a store of its own.
     */
    void isSeenAfter(Check check, int room, int length, Consumer<Run> calls) {
        Run asked = new Run(check, room, length);
        calls.accept(asked);
        askAll(asked);
        askAll(asked);
        for (int file = 0; file < Run.FILES; file++) {
            Run read = new Run(check, room, length);
            calls.accept(read);
            readAll(read, file);
        }
    }

    private Shown find(int file) {
        for (Shown one : shown) {
            if (one.file == file) {
                return one;
            }
        }
        return null;
    }

    private void askAll(Run r) {
        for (int file = 0; file < Run.FILES; file++) {
            askFile(r, file);
        }
        for (int cartridge = 0; cartridge < Run.CARTRIDGES; cartridge++) {
            r.cartridge(cartridge, 1, liveUnits(cartridge));
        }
        r.ends(ends);
        r.drive(held, head, cost);
        r.taken(unitsTaken());
        r.waiting(filesWaiting());
    }

    private void askFile(Run r, int file) {
        Shown one = find(file);
        if (one == null) {
            r.state(file, Run.ABSENT);
            r.file(file, 1, 0);
            r.noCopy(file);
            r.waits(file, false);
            r.file(file, 5, Run.REFUSED);
            return;
        }
        r.state(file, one.state);
        r.file(file, 1, one.length);
        r.copyAt(file, one.cartridge, one.place);
        r.waits(file, one.waits);
        r.file(file, 5, shown.size() - 1 - shown.indexOf(one));
    }

    private void readAll(Run r, int file) {
        Shown one = find(file);
        for (int i = 0; i < CELLS; i++) {
            r.read(file, i, one == null || i >= one.length ? Run.NONE : one.reads[i]);
        }
    }

    private int liveUnits(int cartridge) {
        int units = 0;
        for (Shown one : shown) {
            units += one.cartridge == cartridge ? one.length : 0;
        }
        return units;
    }

    private int unitsTaken() {
        int units = 0;
        for (Shown one : shown) {
            units += one.isOnDisk() ? one.length : 0;
        }
        return units;
    }

    private int filesWaiting() {
        int waiting = 0;
        for (Shown one : shown) {
            waiting += one.waits ? 1 : 0;
        }
        return waiting;
    }
}
