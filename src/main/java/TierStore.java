/**
 * Small files on a disk with too little room, with copies on cartridges that can only be appended to.
 *
 * <p>A file's cells are held once, whatever its state: a file is RESIDENT from the moment it is
 * written, so a live copy never differs from what the disk held when it was made.
 */
public final class TierStore {
    public static final int DONE = 0;
    public static final int REFUSED = -1;
    public static final int FULL = -2;
    public static final int GONE = -3;
    public static final int ABSENT = 0;
    public static final int RESIDENT = 1;
    public static final int DOUBLE = 2;
    public static final int STUB = 3;
    public static final int LOST = 4;
    public static final long NONE = -1000000000000L;
    public static final long NO_ROOM = -2000000000000L;
    public static final long NO_FILE = -3000000000000L;

    private static final int FILES = 16;
    private static final int CELLS = 4;
    private static final int CARTRIDGES = 4;
    private static final int MOST_WAITING = 6;
    private static final int LEAST_ROOM = 4;
    private static final int MOST_ROOM = 24;
    private static final int LEAST_LENGTH = 4;
    private static final int MOST_LENGTH = 20;
    private static final int LOADING_COST = 20;

    /** Stands for no file and for no cartridge. */
    private static final int NOBODY = -1;

    private final int room;
    private final Tapes tapes;
    private final int[] states = new int[FILES];
    private final int[] lengths = new int[FILES];
    private final int[][] cells = new int[FILES][CELLS];
    private final int[] copyCartridges = new int[FILES];
    private final int[] copyPlaces = new int[FILES];
    private final boolean[] waits = new boolean[FILES];
    private final int[] usedAt = new int[FILES];
    private int uses = 0;

    /** The files that a call goes through, kept here so that no call makes a row of its own. */
    private final int[] listed = new int[FILES];
    private int listedSize = 0;

    public TierStore(int room, int length) {
        this.room = Math.max(LEAST_ROOM, Math.min(MOST_ROOM, room));
        this.tapes = new Tapes(Math.max(LEAST_LENGTH, Math.min(MOST_LENGTH, length)));
    }

    public int create(int file, int length) {
        if (!isFileNumber(file) || length < 1 || length > CELLS) {
            return REFUSED;
        }
        if (states[file] != ABSENT) {
            return REFUSED;
        }
        if (!makeRoom(length)) {
            return FULL;
        }
        states[file] = RESIDENT;
        lengths[file] = length;
        for (int i = 0; i < CELLS; i++) {
            cells[file][i] = 0;
        }
        use(file);
        return DONE;
    }

    public int write(int file, int i, int value) {
        if (!isCell(file, i)) {
            return REFUSED;
        }
        if (states[file] == LOST) {
            return GONE;
        }
        if (!bringToDisk(file)) {
            return FULL;
        }
        cells[file][i] = value;
        states[file] = RESIDENT;
        use(file);
        return DONE;
    }

    public long read(int file, int i) {
        if (!isCell(file, i)) {
            return NONE;
        }
        if (states[file] == LOST) {
            return NO_FILE;
        }
        if (!bringToDisk(file)) {
            return NO_ROOM;
        }
        use(file);
        return cells[file][i];
    }

    public int remove(int file) {
        if (!isPresent(file)) {
            return REFUSED;
        }
        states[file] = ABSENT;
        waits[file] = false;
        return DONE;
    }

    public int backUp() {
        int file = longestUnused(RESIDENT);
        if (file == NOBODY) {
            return REFUSED;
        }
        int target = tapes.cartridgeFor(lengths[file], NOBODY);
        if (target == NOBODY) {
            return FULL;
        }
        putCopy(file, target);
        states[file] = DOUBLE;
        return file;
    }

    public int tidy(int high, int low) {
        if (!isUnits(high) || !isUnits(low) || low > high) {
            return REFUSED;
        }
        if (unitsTaken() <= high) {
            return 0;
        }
        int stubs = 0;
        while (stubs < FILES && unitsTaken() > low && stubOldestDouble()) {
            stubs++;
        }
        return stubs;
    }

    public int ask(int file) {
        if (!isPresent(file)) {
            return REFUSED;
        }
        if (states[file] != STUB || waits[file]) {
            return REFUSED;
        }
        if (filesWaiting() >= MOST_WAITING) {
            return FULL;
        }
        waits[file] = true;
        return DONE;
    }

    public int serve() {
        listWaitingStubs();
        for (int file = 0; file < FILES; file++) {
            waits[file] = false;
        }
        int broughtBack = 0;
        for (int i = 0; i < listedSize; i++) {
            if (bringToDisk(listed[i])) {
                broughtBack++;
            }
        }
        return broughtBack;
    }

    public int empty(int cartridge) {
        if (!isCartridgeNumber(cartridge)) {
            return REFUSED;
        }
        listedSize = 0;
        listCopiesOn(cartridge);
        if (!listedFitBeside(cartridge)) {
            return FULL;
        }
        for (int i = 0; i < listedSize; i++) {
            moveCopy(listed[i], cartridge);
        }
        tapes.ends[cartridge] = 0;
        return listedSize;
    }

    public int lose(int cartridge) {
        if (!isCartridgeNumber(cartridge)) {
            return REFUSED;
        }
        int lost = 0;
        for (int file = 0; file < FILES; file++) {
            if (!hasCopyOn(file, cartridge)) {
                continue;
            }
            if (states[file] == STUB) {
                states[file] = LOST;
                lost++;
            } else {
                states[file] = RESIDENT;
            }
        }
        tapes.replace(cartridge);
        return lost;
    }

    public int file(int file, int what) {
        if (!isFileNumber(file)) {
            return REFUSED;
        }
        boolean present = states[file] != ABSENT;
        switch (what) {
            case 0:
                return states[file];
            case 1:
                return present ? lengths[file] : 0;
            case 2:
                return hasCopy(file) ? copyCartridges[file] : REFUSED;
            case 3:
                return hasCopy(file) ? copyPlaces[file] : REFUSED;
            case 4:
                return waits[file] ? 1 : 0;
            case 5:
                return present ? usedSince(file) : REFUSED;
            default:
                return REFUSED;
        }
    }

    public int cartridge(int cartridge, int what) {
        if (!isCartridgeNumber(cartridge)) {
            return REFUSED;
        }
        switch (what) {
            case 0:
                return tapes.ends[cartridge];
            case 1:
                return liveUnits(cartridge);
            case 2:
                return tapes.held == cartridge ? 1 : 0;
            default:
                return REFUSED;
        }
    }

    public int count(int what) {
        switch (what) {
            case 0:
                return unitsTaken();
            case 1:
                return tapes.cost;
            case 2:
                return tapes.head;
            case 3:
                return filesWaiting();
            default:
                return REFUSED;
        }
    }

    private static boolean isFileNumber(int file) {
        return file >= 0 && file < FILES;
    }

    private static boolean isCartridgeNumber(int cartridge) {
        return cartridge >= 0 && cartridge < CARTRIDGES;
    }

    private static boolean isUnits(int units) {
        return units >= 0 && units <= MOST_ROOM;
    }

    private boolean isPresent(int file) {
        return isFileNumber(file) && states[file] != ABSENT;
    }

    private boolean isCell(int file, int i) {
        return isPresent(file) && i >= 0 && i < lengths[file];
    }

    private boolean isOnDisk(int file) {
        return states[file] == RESIDENT || states[file] == DOUBLE;
    }

    private boolean hasCopy(int file) {
        return states[file] == DOUBLE || states[file] == STUB;
    }

    private boolean hasCopyOn(int file, int cartridge) {
        return hasCopy(file) && copyCartridges[file] == cartridge;
    }

    private void use(int file) {
        uses++;
        usedAt[file] = uses;
    }

    private int usedSince(int file) {
        int later = 0;
        for (int other = 0; other < FILES; other++) {
            if (states[other] != ABSENT && usedAt[other] > usedAt[file]) {
                later++;
            }
        }
        return later;
    }

    private int longestUnused(int state) {
        int oldest = NOBODY;
        for (int file = 0; file < FILES; file++) {
            if (states[file] == state && (oldest == NOBODY || usedAt[file] < usedAt[oldest])) {
                oldest = file;
            }
        }
        return oldest;
    }

    private int unitsTaken() {
        int taken = 0;
        for (int file = 0; file < FILES; file++) {
            if (isOnDisk(file)) {
                taken += lengths[file];
            }
        }
        return taken;
    }

    private int liveUnits(int cartridge) {
        int live = 0;
        for (int file = 0; file < FILES; file++) {
            if (hasCopyOn(file, cartridge)) {
                live += lengths[file];
            }
        }
        return live;
    }

    private int filesWaiting() {
        int waiting = 0;
        for (int file = 0; file < FILES; file++) {
            if (waits[file]) {
                waiting++;
            }
        }
        return waiting;
    }

    private boolean stubOldestDouble() {
        int file = longestUnused(DOUBLE);
        if (file == NOBODY) {
            return false;
        }
        states[file] = STUB;
        return true;
    }

    private boolean hasRoom(int units) {
        return room - unitsTaken() >= units;
    }

    private boolean makeRoom(int units) {
        for (int turn = 0; turn < FILES && !hasRoom(units); turn++) {
            if (!stubOldestDouble()) {
                return false;
            }
        }
        return hasRoom(units);
    }

    /** Brings a STUB back; a file that is on the disk already is left as it is. */
    private boolean bringToDisk(int file) {
        if (states[file] != STUB) {
            return true;
        }
        if (!makeRoom(lengths[file])) {
            return false;
        }
        tapes.pass(copyCartridges[file], copyPlaces[file], lengths[file]);
        states[file] = DOUBLE;
        use(file);
        return true;
    }

    private void putCopy(int file, int cartridge) {
        copyCartridges[file] = cartridge;
        copyPlaces[file] = tapes.append(cartridge, lengths[file]);
    }

    private void moveCopy(int file, int from) {
        tapes.pass(from, copyPlaces[file], lengths[file]);
        int target = tapes.cartridgeFor(lengths[file], from);
        if (target != NOBODY) {
            putCopy(file, target);
        }
    }

    private boolean listedFitBeside(int cartridge) {
        tapes.startTrial();
        for (int i = 0; i < listedSize; i++) {
            if (!tapes.tryBeside(cartridge, lengths[listed[i]])) {
                return false;
            }
        }
        return true;
    }

    private void listWaitingStubs() {
        listedSize = 0;
        int first = tapes.held;
        if (first != NOBODY) {
            listCopiesOn(first);
        }
        for (int cartridge = 0; cartridge < CARTRIDGES; cartridge++) {
            if (cartridge != first) {
                listCopiesOn(cartridge);
            }
        }
        keepWaitingStubs();
    }

    private void listCopiesOn(int cartridge) {
        for (int place = 0; place < tapes.length; place++) {
            int file = fileWithCopyAt(cartridge, place);
            if (file != NOBODY && listedSize < FILES) {
                listed[listedSize] = file;
                listedSize++;
            }
        }
    }

    private int fileWithCopyAt(int cartridge, int place) {
        for (int file = 0; file < FILES; file++) {
            if (hasCopyOn(file, cartridge) && copyPlaces[file] == place) {
                return file;
            }
        }
        return NOBODY;
    }

    private void keepWaitingStubs() {
        int kept = 0;
        for (int i = 0; i < listedSize; i++) {
            int file = listed[i];
            if (waits[file] && states[file] == STUB) {
                listed[kept] = file;
                kept++;
            }
        }
        listedSize = kept;
    }

    /** The cartridges, the one drive for them, and what its movements have cost. */
    private static final class Tapes {
        private final int length;
        private final int[] ends = new int[CARTRIDGES];
        private final int[] trialEnds = new int[CARTRIDGES];
        private int held = NOBODY;
        private int head = 0;
        private int cost = 0;

        private Tapes(int length) {
            this.length = length;
        }

        private void goTo(int cartridge, int place) {
            if (held != cartridge) {
                cost += LOADING_COST;
                held = cartridge;
                head = 0;
            }
            cost += Math.abs(head - place);
            head = place;
        }

        /** Putting a copy and fetching one cost the same, so both are a pass of the head over it. */
        private void pass(int cartridge, int place, int units) {
            goTo(cartridge, place);
            cost += units;
            head += units;
        }

        private int append(int cartridge, int units) {
            int place = ends[cartridge];
            pass(cartridge, place, units);
            ends[cartridge] += units;
            return place;
        }

        private int cartridgeFor(int units, int except) {
            if (held != NOBODY && held != except && ends[held] + units <= length) {
                return held;
            }
            return firstFitting(ends, units, except);
        }

        private int firstFitting(int[] someEnds, int units, int except) {
            for (int cartridge = 0; cartridge < CARTRIDGES; cartridge++) {
                if (cartridge != except && someEnds[cartridge] + units <= length) {
                    return cartridge;
                }
            }
            return NOBODY;
        }

        private void startTrial() {
            System.arraycopy(ends, 0, trialEnds, 0, CARTRIDGES);
        }

        /** The drive goes without a preference here: it will hold the cartridge that is being emptied. */
        private boolean tryBeside(int emptied, int units) {
            int target = firstFitting(trialEnds, units, emptied);
            if (target == NOBODY) {
                return false;
            }
            trialEnds[target] += units;
            return true;
        }

        private void replace(int cartridge) {
            ends[cartridge] = 0;
            if (held == cartridge) {
                held = NOBODY;
                head = 0;
            }
        }
    }
}
