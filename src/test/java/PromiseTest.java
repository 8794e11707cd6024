/** Hand-worked runs, one or more for each promise of the document. */
public final class PromiseTest {
    private static final int DONE = 0;
    private static final int REFUSED = -1;
    private static final int FULL = -2;
    private static final int GONE = -3;
    private static final int ABSENT = 0;
    private static final int RESIDENT = 1;
    private static final int DOUBLE = 2;
    private static final int STUB = 3;
    private static final int LOST = 4;
    private static final long NONE = -1000000000000L;
    private static final long NO_ROOM = -2000000000000L;
    private static final long NO_FILE = -3000000000000L;
    private static final int[] BAD_FILES = {-1, 16, Integer.MIN_VALUE, Integer.MAX_VALUE};
    private static final int[] BAD_CARTRIDGES = {-1, 4, Integer.MIN_VALUE, Integer.MAX_VALUE};

    private static final Check CHECK = new Check();

    public static void main(String[] args) {
        constants();
        newObject();
        roomIsClamped();
        lengthIsClamped();
        create();
        createMakesRoom();
        createThatFailsKeepsStubs();
        write();
        writeBringsBack();
        read();
        readBringsBack();
        bringingBackThatFailsKeepsStubsAndCostsNothing();
        remove();
        backUp();
        backUpLooksAtTheHeldCartridgeFirst();
        backUpThatFailsChangesNothing();
        tidy();
        ask();
        waitingOutlivesTheStub();
        serve();
        serveStartsWithTheHeldCartridge();
        serveTakesStubsOfItsBeginningOnly();
        serveGoesOnAfterOneWithoutRoom();
        empty();
        emptyKeepsStatesAndUses();
        emptyThatFailsChangesNothing();
        emptyTriesAsItWillMove();
        emptyWithoutLiveCopies();
        lose();
        loseOfACartridgeNotHeld();
        file();
        fileUsedSince();
        cartridge();
        cartridgeLiveUnits();
        count();
        CHECK.end();
    }

    private static void due(String call, long got, long want) {
        CHECK.due(call, got, want);
    }

    /** Creates files first .. last of one length. */
    private static void createAll(TierStore x, int first, int last, int length) {
        for (int f = first; f <= last; f++) {
            due("create(" + f + ", " + length + ")", x.create(f, length), DONE);
        }
    }

    /** Backs up first .. last, which must be the order in which they were used. */
    private static void backUpAll(TierStore x, int first, int last) {
        for (int f = first; f <= last; f++) {
            due("backUp()", x.backUp(), f);
        }
    }

    private static void states(TierStore x, int... wanted) {
        for (int f = 0; f < wanted.length; f++) {
            due("file(" + f + ", 0)", x.file(f, 0), wanted[f]);
        }
    }

    private static void ends(TierStore x, int... wanted) {
        for (int c = 0; c < wanted.length; c++) {
            due("cartridge(" + c + ", 0)", x.cartridge(c, 0), wanted[c]);
        }
    }

    private static void copyOf(TierStore x, int f, int cartridge, int place) {
        due("file(" + f + ", 2)", x.file(f, 2), cartridge);
        due("file(" + f + ", 3)", x.file(f, 3), place);
    }

    private static void drive(TierStore x, int held, int head, int cost) {
        for (int c = 0; c < 4; c++) {
            due("cartridge(" + c + ", 2)", x.cartridge(c, 2), c == held ? 1 : 0);
        }
        due("count(2)", x.count(2), head);
        due("count(1)", x.count(1), cost);
    }

    private static void constants() {
        CHECK.topic("constants");
        due("DONE", TierStore.DONE, DONE);
        due("REFUSED", TierStore.REFUSED, REFUSED);
        due("FULL", TierStore.FULL, FULL);
        due("GONE", TierStore.GONE, GONE);
        due("ABSENT", TierStore.ABSENT, ABSENT);
        due("RESIDENT", TierStore.RESIDENT, RESIDENT);
        due("DOUBLE", TierStore.DOUBLE, DOUBLE);
        due("STUB", TierStore.STUB, STUB);
        due("LOST", TierStore.LOST, LOST);
        due("NONE", TierStore.NONE, NONE);
        due("NO_ROOM", TierStore.NO_ROOM, NO_ROOM);
        due("NO_FILE", TierStore.NO_FILE, NO_FILE);
    }

    private static void newObject() {
        CHECK.topic("1 a new object");
        TierStore x = new TierStore(10, 10);
        for (int f = 0; f < 16; f++) {
            due("file(" + f + ", 0)", x.file(f, 0), ABSENT);
            due("file(" + f + ", 4)", x.file(f, 4), 0);
        }
        ends(x, 0, 0, 0, 0);
        drive(x, -1, 0, 0);
        due("count(0)", x.count(0), 0);
        due("count(3)", x.count(3), 0);
    }

    private static int roomOf(int given) {
        TierStore x = new TierStore(given, 20);
        int room = 0;
        for (int f = 0; f < 16; f++) {
            room += x.create(f, 2) == DONE ? 2 : 0;
        }
        for (int f = 0; f < 16; f++) {
            if (x.file(f, 0) == ABSENT && x.create(f, 1) == DONE) {
                return room + 1;
            }
        }
        return room;
    }

    private static void roomIsClamped() {
        CHECK.topic("1 room");
        int[][] givenAndDue = {{Integer.MIN_VALUE, 4}, {-5, 4}, {0, 4}, {3, 4}, {4, 4}, {5, 5}, {13, 13},
            {23, 23}, {24, 24}, {25, 24}, {Integer.MAX_VALUE, 24}};
        for (int[] pair : givenAndDue) {
            due("room of " + pair[0], roomOf(pair[0]), pair[1]);
        }
    }

    /** One file of one cell is written and backed up until the first cartridge is left. */
    private static int lengthOf(int given) {
        TierStore x = new TierStore(4, given);
        x.create(0, 1);
        for (int units = 0; units < 100; units++) {
            x.write(0, 0, units);
            x.backUp();
            if (x.file(0, 2) != 0) {
                return units;
            }
        }
        return -1;
    }

    private static void lengthIsClamped() {
        CHECK.topic("1 length");
        int[][] givenAndDue = {{Integer.MIN_VALUE, 4}, {-1, 4}, {0, 4}, {3, 4}, {4, 4}, {5, 5}, {11, 11},
            {19, 19}, {20, 20}, {21, 20}, {Integer.MAX_VALUE, 20}};
        for (int[] pair : givenAndDue) {
            due("length of " + pair[0], lengthOf(pair[0]), pair[1]);
        }
    }

    private static void create() {
        CHECK.topic("2 create");
        TierStore x = new TierStore(24, 20);
        for (int bad : BAD_FILES) {
            due("create(" + bad + ", 1)", x.create(bad, 1), REFUSED);
        }
        for (int bad : new int[] {0, 5, -1, Integer.MIN_VALUE, Integer.MAX_VALUE}) {
            due("create(3, " + bad + ")", x.create(3, bad), REFUSED);
        }
        due("file(3, 0)", x.file(3, 0), ABSENT);
        due("create(0, 1)", x.create(0, 1), DONE);
        due("create(15, 4)", x.create(15, 4), DONE);
        due("create(15, 4)", x.create(15, 4), REFUSED);
        due("create(15, 1)", x.create(15, 1), REFUSED);
        due("file(15, 0)", x.file(15, 0), RESIDENT);
        due("file(15, 1)", x.file(15, 1), 4);
        due("file(15, 5)", x.file(15, 5), 0);
        due("file(0, 5)", x.file(0, 5), 1);
        due("count(0)", x.count(0), 5);
        due("count(1)", x.count(1), 0);
        due("write(15, 2, 8)", x.write(15, 2, 8), DONE);
        due("remove(15)", x.remove(15), DONE);
        due("create(15, 3)", x.create(15, 3), DONE);
        for (int i = 0; i < 3; i++) {
            due("read(15, " + i + ")", x.read(15, i), 0);
        }
        due("read(15, 3)", x.read(15, 3), NONE);
    }

    private static void createMakesRoom() {
        CHECK.topic("2 create makes room");
        TierStore x = new TierStore(8, 20);
        createAll(x, 0, 3, 2);
        backUpAll(x, 0, 3);
        due("read(0, 0)", x.read(0, 0), 0);
        due("create(4, 1)", x.create(4, 1), DONE);
        states(x, DOUBLE, STUB, DOUBLE, DOUBLE, RESIDENT);
        due("create(5, 1)", x.create(5, 1), DONE);
        states(x, DOUBLE, STUB, DOUBLE, DOUBLE, RESIDENT, RESIDENT);
        due("create(6, 4)", x.create(6, 4), DONE);
        states(x, DOUBLE, STUB, STUB, STUB, RESIDENT, RESIDENT, RESIDENT);
        due("count(0)", x.count(0), 8);
        due("count(1)", x.count(1), 28);
    }

    private static void createThatFailsKeepsStubs() {
        CHECK.topic("2 create that fails");
        TierStore x = new TierStore(6, 20);
        createAll(x, 0, 0, 2);
        createAll(x, 1, 1, 3);
        due("backUp()", x.backUp(), 0);
        due("create(1, 4)", x.create(1, 4), REFUSED);
        due("file(0, 0)", x.file(0, 0), DOUBLE);
        due("create(2, 4)", x.create(2, 4), FULL);
        states(x, STUB, RESIDENT, ABSENT);
        due("file(2, 1)", x.file(2, 1), 0);
        due("count(0)", x.count(0), 3);
        due("create(2, 3)", x.create(2, 3), DONE);
    }

    private static void write() {
        CHECK.topic("3 write");
        TierStore x = new TierStore(12, 20);
        createAll(x, 2, 2, 3);
        createAll(x, 3, 3, 4);
        for (int bad : BAD_FILES) {
            due("write(" + bad + ", 0, 1)", x.write(bad, 0, 1), REFUSED);
        }
        for (int bad : new int[] {-1, 3, 4, Integer.MIN_VALUE, Integer.MAX_VALUE}) {
            due("write(2, " + bad + ", 1)", x.write(2, bad, 1), REFUSED);
        }
        due("write(0, 0, 1)", x.write(0, 0, 1), REFUSED);
        due("file(2, 5)", x.file(2, 5), 1);
        due("write(2, 0, MIN)", x.write(2, 0, Integer.MIN_VALUE), DONE);
        due("file(2, 5)", x.file(2, 5), 0);
        due("write(2, 2, MAX)", x.write(2, 2, Integer.MAX_VALUE), DONE);
        due("write(3, 3, -9)", x.write(3, 3, -9), DONE);
        due("read(2, 0)", x.read(2, 0), Integer.MIN_VALUE);
        due("read(2, 1)", x.read(2, 1), 0);
        due("read(2, 2)", x.read(2, 2), Integer.MAX_VALUE);
        due("read(3, 3)", x.read(3, 3), -9);
        due("backUp()", x.backUp(), 2);
        due("file(2, 0)", x.file(2, 0), DOUBLE);
        due("write(2, 1, 5)", x.write(2, 1, 5), DONE);
        due("file(2, 0)", x.file(2, 0), RESIDENT);
        copyOf(x, 2, REFUSED, REFUSED);
        due("count(1)", x.count(1), 23);
    }

    private static void writeBringsBack() {
        CHECK.topic("3 write brings back");
        TierStore x = new TierStore(6, 20);
        createAll(x, 0, 1, 3);
        due("write(0, 1, 4)", x.write(0, 1, 4), DONE);
        due("backUp()", x.backUp(), 1);
        due("backUp()", x.backUp(), 0);
        due("tidy(0, 0)", x.tidy(0, 0), 2);
        drive(x, 0, 6, 26);
        due("write(1, 3, 7)", x.write(1, 3, 7), REFUSED);
        due("file(1, 0)", x.file(1, 0), STUB);
        due("write(1, 0, 7)", x.write(1, 0, 7), DONE);
        drive(x, 0, 3, 35);
        states(x, STUB, RESIDENT);
        due("write(0, 0, 8)", x.write(0, 0, 8), DONE);
        drive(x, 0, 6, 38);
        due("read(0, 1)", x.read(0, 1), 4);
        due("read(0, 0)", x.read(0, 0), 8);
        due("cartridge(0, 1)", x.cartridge(0, 1), 0);
        backUpAll(x, 1, 1);
        due("lose(0)", x.lose(0), 0);
        due("file(1, 0)", x.file(1, 0), RESIDENT);
        backUpAll(x, 1, 1);
        due("tidy(0, 0)", x.tidy(0, 0), 1);
        due("lose(0)", x.lose(0), 1);
        due("write(1, 3, 1)", x.write(1, 3, 1), REFUSED);
        due("write(1, 0, 1)", x.write(1, 0, 1), GONE);
        due("file(1, 5)", x.file(1, 5), 1);
    }

    private static void read() {
        CHECK.topic("4 read");
        TierStore x = new TierStore(12, 20);
        createAll(x, 0, 0, 1);
        createAll(x, 15, 15, 4);
        for (int bad : BAD_FILES) {
            due("read(" + bad + ", 0)", x.read(bad, 0), NONE);
        }
        for (int bad : new int[] {-1, 1, 3, 4, Integer.MIN_VALUE, Integer.MAX_VALUE}) {
            due("read(0, " + bad + ")", x.read(0, bad), NONE);
        }
        due("read(5, 0)", x.read(5, 0), NONE);
        due("file(0, 5)", x.file(0, 5), 1);
        due("write(15, 3, -1)", x.write(15, 3, -1), DONE);
        due("read(15, 3)", x.read(15, 3), -1);
        due("read(0, 0)", x.read(0, 0), 0);
        due("file(0, 5)", x.file(0, 5), 0);
        due("file(0, 0)", x.file(0, 0), RESIDENT);
        due("backUp()", x.backUp(), 15);
        due("read(15, 3)", x.read(15, 3), -1);
        due("file(15, 0)", x.file(15, 0), DOUBLE);
        due("file(15, 5)", x.file(15, 5), 0);
        due("count(1)", x.count(1), 24);
    }

    private static void readBringsBack() {
        CHECK.topic("4 read brings back");
        TierStore x = new TierStore(4, 20);
        createAll(x, 0, 0, 2);
        createAll(x, 1, 1, 2);
        due("write(0, 1, 6)", x.write(0, 1, 6), DONE);
        due("backUp()", x.backUp(), 1);
        due("backUp()", x.backUp(), 0);
        createAll(x, 2, 2, 2);
        states(x, DOUBLE, STUB, RESIDENT);
        due("file(1, 5)", x.file(1, 5), 2);
        due("read(1, 2)", x.read(1, 2), NONE);
        due("file(1, 0)", x.file(1, 0), STUB);
        due("read(1, 1)", x.read(1, 1), 0);
        states(x, STUB, DOUBLE, RESIDENT);
        due("file(1, 5)", x.file(1, 5), 0);
        drive(x, 0, 2, 30);
        due("read(0, 1)", x.read(0, 1), 6);
        states(x, DOUBLE, STUB, RESIDENT);
        drive(x, 0, 4, 32);
        copyOf(x, 0, 0, 2);
        due("tidy(0, 0)", x.tidy(0, 0), 1);
        due("lose(0)", x.lose(0), 2);
        due("read(0, 2)", x.read(0, 2), NONE);
        due("read(0, 1)", x.read(0, 1), NO_FILE);
        due("file(0, 5)", x.file(0, 5), 0);
        due("read(1, 1)", x.read(1, 1), NO_FILE);
        due("file(1, 5)", x.file(1, 5), 1);
    }

    private static void bringingBackThatFailsKeepsStubsAndCostsNothing() {
        CHECK.topic("3 and 4 no room to bring back");
        TierStore x = new TierStore(6, 20);
        createAll(x, 0, 0, 4);
        createAll(x, 1, 1, 1);
        backUpAll(x, 0, 1);
        createAll(x, 2, 2, 4);
        states(x, STUB, DOUBLE, RESIDENT);
        due("count(1)", x.count(1), 25);
        due("read(0, 0)", x.read(0, 0), NO_ROOM);
        states(x, STUB, STUB, RESIDENT);
        due("count(1)", x.count(1), 25);
        due("file(0, 5)", x.file(0, 5), 2);
        due("read(1, 0)", x.read(1, 0), 0);
        due("count(1)", x.count(1), 27);
        due("write(0, 0, 3)", x.write(0, 0, 3), FULL);
        states(x, STUB, STUB, RESIDENT);
        due("count(1)", x.count(1), 27);
        due("remove(2)", x.remove(2), DONE);
        due("read(0, 0)", x.read(0, 0), 0);
        due("count(1)", x.count(1), 36);
    }

    private static void remove() {
        CHECK.topic("5 remove");
        TierStore x = new TierStore(8, 8);
        for (int bad : BAD_FILES) {
            due("remove(" + bad + ")", x.remove(bad), REFUSED);
        }
        due("remove(0)", x.remove(0), REFUSED);
        createAll(x, 0, 3, 2);
        backUpAll(x, 0, 2);
        due("tidy(7, 4)", x.tidy(7, 4), 2);
        due("ask(0)", x.ask(0), DONE);
        due("ask(1)", x.ask(1), DONE);
        due("remove(0)", x.remove(0), DONE);
        due("remove(0)", x.remove(0), REFUSED);
        due("count(3)", x.count(3), 1);
        due("file(0, 4)", x.file(0, 4), 0);
        due("file(1, 4)", x.file(1, 4), 1);
        due("cartridge(0, 1)", x.cartridge(0, 1), 4);
        ends(x, 6, 0, 0, 0);
        copyOf(x, 0, REFUSED, REFUSED);
        due("remove(2)", x.remove(2), DONE);
        due("remove(3)", x.remove(3), DONE);
        due("count(0)", x.count(0), 0);
        due("count(1)", x.count(1), 26);
        due("lose(0)", x.lose(0), 1);
        states(x, ABSENT, LOST, ABSENT, ABSENT);
        due("remove(1)", x.remove(1), DONE);
        due("count(3)", x.count(3), 0);
        createAll(x, 1, 1, 1);
        due("file(1, 4)", x.file(1, 4), 0);
        due("file(1, 0)", x.file(1, 0), RESIDENT);
    }

    private static void backUp() {
        CHECK.topic("6 backUp");
        TierStore x = new TierStore(8, 6);
        due("backUp()", x.backUp(), REFUSED);
        createAll(x, 5, 5, 3);
        createAll(x, 1, 1, 2);
        createAll(x, 3, 3, 3);
        due("read(5, 0)", x.read(5, 0), 0);
        due("backUp()", x.backUp(), 1);
        due("file(1, 0)", x.file(1, 0), DOUBLE);
        due("file(1, 5)", x.file(1, 5), 2);
        copyOf(x, 1, 0, 0);
        drive(x, 0, 2, 22);
        due("backUp()", x.backUp(), 3);
        copyOf(x, 3, 0, 2);
        drive(x, 0, 5, 25);
        due("backUp()", x.backUp(), 5);
        copyOf(x, 5, 1, 0);
        drive(x, 1, 3, 48);
        ends(x, 5, 3, 0, 0);
        due("backUp()", x.backUp(), REFUSED);
        due("count(1)", x.count(1), 48);
        due("write(1, 0, 1)", x.write(1, 0, 1), DONE);
        due("backUp()", x.backUp(), 1);
        copyOf(x, 1, 1, 3);
        due("cartridge(0, 1)", x.cartridge(0, 1), 3);
        due("cartridge(1, 1)", x.cartridge(1, 1), 5);
    }

    private static void backUpLooksAtTheHeldCartridgeFirst() {
        CHECK.topic("6 backUp and the held cartridge");
        TierStore x = new TierStore(24, 4);
        createAll(x, 0, 2, 4);
        backUpAll(x, 0, 2);
        drive(x, 2, 4, 72);
        due("remove(0)", x.remove(0), DONE);
        due("remove(1)", x.remove(1), DONE);
        due("empty(0)", x.empty(0), 0);
        due("lose(1)", x.lose(1), 0);
        createAll(x, 0, 0, 3);
        createAll(x, 1, 1, 2);
        createAll(x, 3, 3, 1);
        createAll(x, 4, 4, 2);
        due("backUp()", x.backUp(), 0);
        copyOf(x, 0, 0, 0);
        due("backUp()", x.backUp(), 1);
        copyOf(x, 1, 1, 0);
        drive(x, 1, 2, 117);
        // Cartridge 0 has a unit left as well, but the drive holds cartridge 1.
        due("backUp()", x.backUp(), 3);
        copyOf(x, 3, 1, 2);
        drive(x, 1, 3, 118);
        due("backUp()", x.backUp(), 4);
        copyOf(x, 4, 3, 0);
        createAll(x, 5, 5, 1);
        createAll(x, 6, 7, 1);
        backUpAll(x, 5, 6);
        copyOf(x, 5, 3, 2);
        copyOf(x, 6, 3, 3);
        backUpAll(x, 7, 7);
        copyOf(x, 7, 0, 3);
    }

    private static void backUpThatFailsChangesNothing() {
        CHECK.topic("6 backUp that fails");
        TierStore x = new TierStore(24, 4);
        createAll(x, 0, 3, 3);
        backUpAll(x, 0, 3);
        createAll(x, 4, 4, 2);
        createAll(x, 5, 5, 1);
        drive(x, 3, 3, 92);
        due("backUp()", x.backUp(), FULL);
        states(x, DOUBLE, DOUBLE, DOUBLE, DOUBLE, RESIDENT, RESIDENT);
        drive(x, 3, 3, 92);
        ends(x, 3, 3, 3, 3);
        due("read(4, 0)", x.read(4, 0), 0);
        due("backUp()", x.backUp(), 5);
        copyOf(x, 5, 3, 3);
    }

    private static void tidy() {
        CHECK.topic("7 tidy");
        TierStore x = new TierStore(24, 20);
        createAll(x, 0, 4, 2);
        int[][] bad = {{-1, -1}, {0, -1}, {25, 0}, {25, 25}, {3, 4}, {0, 24}, {Integer.MAX_VALUE, 0},
            {0, Integer.MIN_VALUE}, {-1, 0}};
        backUpAll(x, 0, 3);
        for (int[] pair : bad) {
            due("tidy(" + pair[0] + ", " + pair[1] + ")", x.tidy(pair[0], pair[1]), REFUSED);
        }
        due("read(0, 0)", x.read(0, 0), 0);
        due("tidy(24, 24)", x.tidy(24, 24), 0);
        due("tidy(10, 0)", x.tidy(10, 0), 0);
        states(x, DOUBLE, DOUBLE, DOUBLE, DOUBLE, RESIDENT);
        due("tidy(9, 9)", x.tidy(9, 9), 1);
        states(x, DOUBLE, STUB, DOUBLE, DOUBLE, RESIDENT);
        due("tidy(7, 6)", x.tidy(7, 6), 1);
        states(x, DOUBLE, STUB, STUB, DOUBLE, RESIDENT);
        due("count(0)", x.count(0), 6);
        due("tidy(0, 0)", x.tidy(0, 0), 2);
        states(x, STUB, STUB, STUB, STUB, RESIDENT);
        due("tidy(0, 0)", x.tidy(0, 0), 0);
        due("count(1)", x.count(1), 28);
    }

    private static void ask() {
        CHECK.topic("8 ask");
        TierStore x = new TierStore(24, 20);
        for (int bad : BAD_FILES) {
            due("ask(" + bad + ")", x.ask(bad), REFUSED);
        }
        due("ask(0)", x.ask(0), REFUSED);
        createAll(x, 0, 8, 1);
        due("ask(0)", x.ask(0), REFUSED);
        backUpAll(x, 0, 7);
        due("ask(0)", x.ask(0), REFUSED);
        due("tidy(0, 0)", x.tidy(0, 0), 8);
        for (int f = 0; f < 6; f++) {
            due("count(3)", x.count(3), f);
            due("file(" + f + ", 4)", x.file(f, 4), 0);
            due("ask(" + f + ")", x.ask(f), DONE);
            due("file(" + f + ", 4)", x.file(f, 4), 1);
            due("ask(" + f + ")", x.ask(f), REFUSED);
        }
        due("ask(6)", x.ask(6), FULL);
        due("ask(5)", x.ask(5), REFUSED);
        due("ask(8)", x.ask(8), REFUSED);
        due("ask(9)", x.ask(9), REFUSED);
        due("file(6, 4)", x.file(6, 4), 0);
        due("count(3)", x.count(3), 6);
        due("remove(2)", x.remove(2), DONE);
        due("ask(7)", x.ask(7), DONE);
        due("ask(6)", x.ask(6), FULL);
        due("count(1)", x.count(1), 28);
        due("lose(0)", x.lose(0), 7);
        due("serve()", x.serve(), 0);
        due("ask(6)", x.ask(6), REFUSED);
    }

    private static void waitingOutlivesTheStub() {
        CHECK.topic("8 and 9 a file waits until serve");
        TierStore x = new TierStore(24, 20);
        createAll(x, 0, 6, 1);
        backUpAll(x, 0, 6);
        due("tidy(0, 0)", x.tidy(0, 0), 7);
        for (int f = 0; f < 6; f++) {
            due("ask(" + f + ")", x.ask(f), DONE);
        }
        due("read(0, 0)", x.read(0, 0), 0);
        due("write(1, 0, 1)", x.write(1, 0, 1), DONE);
        due("file(0, 4)", x.file(0, 4), 1);
        due("file(1, 4)", x.file(1, 4), 1);
        due("count(3)", x.count(3), 6);
        due("ask(6)", x.ask(6), FULL);
        due("backUp()", x.backUp(), 1);
        due("tidy(1, 1)", x.tidy(1, 1), 1);
        due("tidy(0, 0)", x.tidy(0, 0), 1);
        due("ask(1)", x.ask(1), REFUSED);
        due("read(5, 0)", x.read(5, 0), 0);
        due("serve()", x.serve(), 5);
        due("count(3)", x.count(3), 0);
        states(x, DOUBLE, DOUBLE, DOUBLE, DOUBLE, DOUBLE, DOUBLE, STUB);
        // Rising places: 0, 2, 3, 4 and then the newer copy of 1; 5 was read before.
        due("file(5, 5)", x.file(5, 5), 5);
        due("file(0, 5)", x.file(0, 5), 4);
        due("file(2, 5)", x.file(2, 5), 3);
        due("file(3, 5)", x.file(3, 5), 2);
        due("file(4, 5)", x.file(4, 5), 1);
        due("file(1, 5)", x.file(1, 5), 0);
        due("ask(6)", x.ask(6), DONE);
    }

    private static void serve() {
        CHECK.topic("9 serve");
        TierStore x = new TierStore(24, 20);
        due("serve()", x.serve(), 0);
        createAll(x, 0, 3, 3);
        backUpAll(x, 0, 3);
        due("tidy(0, 0)", x.tidy(0, 0), 4);
        due("ask(3)", x.ask(3), DONE);
        due("ask(0)", x.ask(0), DONE);
        due("ask(2)", x.ask(2), DONE);
        due("serve()", x.serve(), 3);
        states(x, DOUBLE, STUB, DOUBLE, DOUBLE);
        drive(x, 0, 12, 20 + 12 + 12 + 3 + 3 + 3 + 3);
        due("file(0, 5)", x.file(0, 5), 2);
        due("file(2, 5)", x.file(2, 5), 1);
        due("file(3, 5)", x.file(3, 5), 0);
        due("count(3)", x.count(3), 0);
        due("file(3, 4)", x.file(3, 4), 0);
        due("serve()", x.serve(), 0);
        due("file(1, 0)", x.file(1, 0), STUB);
    }

    private static void serveStartsWithTheHeldCartridge() {
        CHECK.topic("9 serve and the held cartridge");
        TierStore x = new TierStore(24, 4);
        createAll(x, 0, 5, 2);
        createAll(x, 6, 6, 4);
        backUpAll(x, 0, 6);
        due("tidy(0, 0)", x.tidy(0, 0), 7);
        due("read(3, 0)", x.read(3, 0), 0);
        drive(x, 1, 4, 20 * 5 + 16 + 2 + 2);
        due("tidy(0, 0)", x.tidy(0, 0), 1);
        for (int f : new int[] {6, 5, 3, 2, 1, 0}) {
            due("ask(" + f + ")", x.ask(f), DONE);
        }
        due("serve()", x.serve(), 6);
        // Cartridge 1 from place 4 back to 0, then cartridges 0, 2 and 3.
        int cost = 120 + 4 + 4 + 20 + 4 + 20 + 2 + 2 + 20 + 4;
        drive(x, 3, 4, cost);
        int[] order = {2, 3, 0, 1, 5, 6};
        for (int k = 0; k < order.length; k++) {
            due("file(" + order[k] + ", 5)", x.file(order[k], 5), order.length - 1 - k);
        }
        due("tidy(0, 0)", x.tidy(0, 0), 6);
        due("lose(3)", x.lose(3), 1);
        drive(x, -1, 0, cost);
        due("ask(4)", x.ask(4), DONE);
        due("ask(0)", x.ask(0), DONE);
        due("serve()", x.serve(), 2);
        due("file(0, 5)", x.file(0, 5), 1);
        drive(x, 2, 2, cost + 22 + 22);
    }

    private static void serveTakesStubsOfItsBeginningOnly() {
        CHECK.topic("9 serve works its order out before");
        TierStore x = new TierStore(4, 20);
        createAll(x, 0, 1, 2);
        backUpAll(x, 0, 1);
        createAll(x, 2, 2, 4);
        backUpAll(x, 2, 2);
        states(x, STUB, STUB, DOUBLE);
        due("ask(1)", x.ask(1), DONE);
        due("ask(0)", x.ask(0), DONE);
        due("read(1, 0)", x.read(1, 0), 0);
        states(x, STUB, DOUBLE, STUB);
        due("ask(2)", x.ask(2), DONE);
        // 0 comes back; then 2 pushes out 1, which waits but was no stub at first, and 0.
        due("serve()", x.serve(), 2);
        states(x, STUB, STUB, DOUBLE);
        due("count(3)", x.count(3), 0);
        due("file(0, 4)", x.file(0, 4), 0);
        due("file(1, 5)", x.file(1, 5), 2);
        due("file(0, 5)", x.file(0, 5), 1);
    }

    private static void serveGoesOnAfterOneWithoutRoom() {
        CHECK.topic("9 serve goes on after one without room");
        TierStore x = new TierStore(6, 20);
        createAll(x, 0, 0, 4);
        createAll(x, 1, 1, 2);
        backUpAll(x, 0, 1);
        createAll(x, 2, 2, 4);
        createAll(x, 3, 3, 1);
        states(x, STUB, STUB, RESIDENT, RESIDENT);
        due("ask(0)", x.ask(0), DONE);
        due("ask(1)", x.ask(1), DONE);
        due("serve()", x.serve(), 0);
        due("count(3)", x.count(3), 0);
        due("count(1)", x.count(1), 26);
        due("remove(3)", x.remove(3), DONE);
        due("ask(0)", x.ask(0), DONE);
        due("ask(1)", x.ask(1), DONE);
        due("serve()", x.serve(), 1);
        states(x, STUB, DOUBLE, RESIDENT);
        due("file(0, 4)", x.file(0, 4), 0);
        drive(x, 0, 6, 26 + 2 + 2);
    }

    private static void empty() {
        CHECK.topic("10 empty");
        TierStore x = new TierStore(24, 6);
        for (int bad : BAD_CARTRIDGES) {
            due("empty(" + bad + ")", x.empty(bad), REFUSED);
        }
        createAll(x, 0, 2, 2);
        createAll(x, 3, 3, 4);
        createAll(x, 4, 4, 3);
        backUpAll(x, 0, 4);
        ends(x, 6, 4, 3, 0);
        due("write(1, 0, 9)", x.write(1, 0, 9), DONE);
        drive(x, 2, 3, 3 * 20 + 13);
        due("empty(0)", x.empty(0), 2);
        // Out of cartridge 0 at 0 onto 1 at 4, then out of 0 at 4 onto 2 at 3.
        drive(x, 2, 5, 73 + (20 + 2) + (20 + 4 + 2) + (20 + 4 + 2) + (20 + 3 + 2));
        ends(x, 0, 6, 5, 0);
        copyOf(x, 0, 1, 4);
        copyOf(x, 2, 2, 3);
        copyOf(x, 1, REFUSED, REFUSED);
        due("cartridge(0, 1)", x.cartridge(0, 1), 0);
        due("cartridge(1, 1)", x.cartridge(1, 1), 6);
        due("backUp()", x.backUp(), 1);
        copyOf(x, 1, 0, 0);
    }

    private static void emptyKeepsStatesAndUses() {
        CHECK.topic("10 empty keeps states");
        TierStore x = new TierStore(24, 20);
        createAll(x, 0, 2, 2);
        due("write(0, 1, 11)", x.write(0, 1, 11), DONE);
        due("backUp()", x.backUp(), 1);
        due("backUp()", x.backUp(), 2);
        due("backUp()", x.backUp(), 0);
        due("tidy(5, 4)", x.tidy(5, 4), 1);
        due("ask(1)", x.ask(1), DONE);
        states(x, DOUBLE, STUB, DOUBLE);
        due("empty(0)", x.empty(0), 3);
        states(x, DOUBLE, STUB, DOUBLE);
        copyOf(x, 1, 1, 0);
        copyOf(x, 2, 1, 2);
        copyOf(x, 0, 1, 4);
        due("file(0, 5)", x.file(0, 5), 0);
        due("file(1, 5)", x.file(1, 5), 2);
        due("file(1, 4)", x.file(1, 4), 1);
        due("count(0)", x.count(0), 4);
        due("lose(0)", x.lose(0), 0);
        due("tidy(0, 0)", x.tidy(0, 0), 2);
        due("read(0, 1)", x.read(0, 1), 11);
    }

    private static void emptyThatFailsChangesNothing() {
        CHECK.topic("10 empty that fails");
        TierStore x = new TierStore(24, 4);
        createAll(x, 0, 1, 2);
        createAll(x, 2, 4, 3);
        backUpAll(x, 0, 4);
        ends(x, 4, 3, 3, 3);
        drive(x, 3, 3, 93);
        due("empty(0)", x.empty(0), FULL);
        ends(x, 4, 3, 3, 3);
        drive(x, 3, 3, 93);
        copyOf(x, 0, 0, 0);
        copyOf(x, 1, 0, 2);
        due("remove(2)", x.remove(2), DONE);
        due("empty(1)", x.empty(1), 0);
        due("remove(3)", x.remove(3), DONE);
        due("empty(0)", x.empty(0), 2);
        copyOf(x, 0, 1, 0);
        copyOf(x, 1, 1, 2);
    }

    /** The drive's own cartridge must get no preference when the places are tried. */
    private static void emptyTriesAsItWillMove() {
        CHECK.topic("10 empty tries as it will move");
        TierStore x = new TierStore(24, 6);
        createOfLengths(x, new int[] {2, 3, 4, 4, 2, 3});
        backUpAll(x, 0, 5);
        ends(x, 5, 4, 6, 3);
        drive(x, 3, 3, 98);
        // Were the held cartridge 3 tried first, file 0 would take the units that file 1 needs.
        due("empty(0)", x.empty(0), 2);
        copyOf(x, 0, 1, 4);
        copyOf(x, 1, 3, 3);
        drive(x, 3, 6, 98 + (20 + 2) + (20 + 4 + 2) + (20 + 2 + 3) + (20 + 3 + 3));

        x = new TierStore(24, 6);
        createOfLengths(x, new int[] {2, 3, 3, 4, 2, 4});
        backUpAll(x, 0, 5);
        ends(x, 5, 3, 6, 4);
        // Were the held cartridge 3 tried first, there would be places for both.
        due("empty(0)", x.empty(0), FULL);
        ends(x, 5, 3, 6, 4);
        drive(x, 3, 4, 98);
    }

    private static void createOfLengths(TierStore x, int[] lengths) {
        for (int f = 0; f < lengths.length; f++) {
            createAll(x, f, f, lengths[f]);
        }
    }

    private static void emptyWithoutLiveCopies() {
        CHECK.topic("10 empty without live copies");
        TierStore x = new TierStore(8, 8);
        createAll(x, 0, 0, 4);
        backUpAll(x, 0, 0);
        due("write(0, 0, 1)", x.write(0, 0, 1), DONE);
        due("empty(0)", x.empty(0), 0);
        ends(x, 0, 0, 0, 0);
        drive(x, 0, 4, 24);
        due("backUp()", x.backUp(), 0);
        copyOf(x, 0, 0, 0);
        drive(x, 0, 4, 32);
        due("empty(3)", x.empty(3), 0);
        drive(x, 0, 4, 32);
    }

    private static void lose() {
        CHECK.topic("11 lose");
        TierStore x = new TierStore(24, 6);
        for (int bad : BAD_CARTRIDGES) {
            due("lose(" + bad + ")", x.lose(bad), REFUSED);
        }
        due("lose(2)", x.lose(2), 0);
        createAll(x, 0, 4, 2);
        backUpAll(x, 0, 3);
        due("tidy(9, 7)", x.tidy(9, 7), 2);
        due("ask(1)", x.ask(1), DONE);
        states(x, STUB, STUB, DOUBLE, DOUBLE, RESIDENT);
        due("write(0, 0, 3)", x.write(0, 0, 3), DONE);
        drive(x, 0, 2, 70);
        due("lose(0)", x.lose(0), 1);
        states(x, RESIDENT, LOST, RESIDENT, DOUBLE, RESIDENT);
        drive(x, -1, 0, 70);
        ends(x, 0, 2, 0, 0);
        copyOf(x, 1, REFUSED, REFUSED);
        copyOf(x, 2, REFUSED, REFUSED);
        due("file(1, 1)", x.file(1, 1), 2);
        due("file(1, 4)", x.file(1, 4), 1);
        due("count(3)", x.count(3), 1);
        due("count(0)", x.count(0), 8);
        due("ask(1)", x.ask(1), REFUSED);
        due("create(1, 2)", x.create(1, 2), REFUSED);
        due("serve()", x.serve(), 0);
        due("count(3)", x.count(3), 0);
        due("ask(1)", x.ask(1), REFUSED);
        due("backUp()", x.backUp(), 2);
        copyOf(x, 2, 0, 0);
        drive(x, 0, 2, 92);
    }

    private static void loseOfACartridgeNotHeld() {
        CHECK.topic("11 lose of a cartridge not held");
        TierStore x = new TierStore(24, 4);
        createAll(x, 0, 1, 4);
        backUpAll(x, 0, 1);
        due("tidy(0, 0)", x.tidy(0, 0), 2);
        due("lose(0)", x.lose(0), 1);
        states(x, LOST, STUB);
        drive(x, 1, 4, 48);
        ends(x, 0, 4, 0, 0);
    }

    private static void file() {
        CHECK.topic("12 file");
        TierStore x = new TierStore(24, 20);
        createAll(x, 0, 2, 3);
        for (int bad : BAD_FILES) {
            for (int what = 0; what < 6; what++) {
                due("file(" + bad + ", " + what + ")", x.file(bad, what), REFUSED);
            }
        }
        for (int bad : new int[] {-1, 6, Integer.MIN_VALUE, Integer.MAX_VALUE}) {
            due("file(0, " + bad + ")", x.file(0, bad), REFUSED);
            due("file(9, " + bad + ")", x.file(9, bad), REFUSED);
        }
        int[] absent = {ABSENT, 0, REFUSED, REFUSED, 0, REFUSED};
        for (int what = 0; what < 6; what++) {
            due("file(9, " + what + ")", x.file(9, what), absent[what]);
        }
        due("file(1, 0)", x.file(1, 0), RESIDENT);
        due("file(1, 1)", x.file(1, 1), 3);
        copyOf(x, 1, REFUSED, REFUSED);
        backUpAll(x, 0, 1);
        copyOf(x, 1, 0, 3);
        due("tidy(0, 0)", x.tidy(0, 0), 2);
        due("file(1, 0)", x.file(1, 0), STUB);
        due("file(1, 1)", x.file(1, 1), 3);
        copyOf(x, 1, 0, 3);
        due("ask(1)", x.ask(1), DONE);
        due("file(1, 4)", x.file(1, 4), 1);
        due("remove(1)", x.remove(1), DONE);
        for (int what = 0; what < 6; what++) {
            due("file(1, " + what + ")", x.file(1, what), absent[what]);
        }
    }

    private static void fileUsedSince() {
        CHECK.topic("12 file used since");
        TierStore x = new TierStore(24, 20);
        createAll(x, 0, 3, 1);
        for (int f = 0; f < 4; f++) {
            due("file(" + f + ", 5)", x.file(f, 5), 3 - f);
        }
        due("read(1, 0)", x.read(1, 0), 0);
        due("read(1, 0)", x.read(1, 0), 0);
        due("file(1, 5)", x.file(1, 5), 0);
        due("file(0, 5)", x.file(0, 5), 3);
        due("file(2, 5)", x.file(2, 5), 2);
        due("remove(3)", x.remove(3), DONE);
        due("file(2, 5)", x.file(2, 5), 1);
        due("backUp()", x.backUp(), 0);
        due("file(0, 5)", x.file(0, 5), 2);
        due("tidy(0, 0)", x.tidy(0, 0), 1);
        due("ask(0)", x.ask(0), DONE);
        due("file(0, 5)", x.file(0, 5), 2);
        due("serve()", x.serve(), 1);
        due("file(0, 5)", x.file(0, 5), 0);
        due("tidy(0, 0)", x.tidy(0, 0), 1);
        due("lose(0)", x.lose(0), 1);
        due("file(0, 5)", x.file(0, 5), 0);
        due("file(1, 5)", x.file(1, 5), 1);
    }

    private static void cartridge() {
        CHECK.topic("13 cartridge");
        TierStore x = new TierStore(24, 20);
        for (int bad : BAD_CARTRIDGES) {
            for (int what = 0; what < 3; what++) {
                due("cartridge(" + bad + ", " + what + ")", x.cartridge(bad, what), REFUSED);
            }
        }
        for (int bad : new int[] {-1, 3, Integer.MIN_VALUE, Integer.MAX_VALUE}) {
            due("cartridge(0, " + bad + ")", x.cartridge(0, bad), REFUSED);
            due("cartridge(3, " + bad + ")", x.cartridge(3, bad), REFUSED);
        }
        createAll(x, 0, 5, 4);
        backUpAll(x, 0, 4);
        ends(x, 20, 0, 0, 0);
        drive(x, 0, 20, 40);
        backUpAll(x, 5, 5);
        ends(x, 20, 4, 0, 0);
        drive(x, 1, 4, 64);
    }

    private static void cartridgeLiveUnits() {
        CHECK.topic("13 cartridge live units");
        TierStore x = new TierStore(24, 20);
        createAll(x, 0, 3, 3);
        backUpAll(x, 0, 3);
        due("cartridge(0, 1)", x.cartridge(0, 1), 12);
        due("tidy(11, 9)", x.tidy(11, 9), 1);
        due("cartridge(0, 1)", x.cartridge(0, 1), 12);
        due("write(1, 0, 1)", x.write(1, 0, 1), DONE);
        due("cartridge(0, 1)", x.cartridge(0, 1), 9);
        due("backUp()", x.backUp(), 1);
        due("cartridge(0, 0)", x.cartridge(0, 0), 15);
        due("cartridge(0, 1)", x.cartridge(0, 1), 12);
        due("remove(0)", x.remove(0), DONE);
        due("cartridge(0, 1)", x.cartridge(0, 1), 9);
        due("lose(0)", x.lose(0), 0);
        due("cartridge(0, 1)", x.cartridge(0, 1), 0);
    }

    private static void count() {
        CHECK.topic("14 count");
        TierStore x = new TierStore(24, 8);
        for (int bad : new int[] {-1, 4, Integer.MIN_VALUE, Integer.MAX_VALUE}) {
            due("count(" + bad + ")", x.count(bad), REFUSED);
        }
        createAll(x, 0, 3, 3);
        due("count(0)", x.count(0), 12);
        backUpAll(x, 0, 3);
        due("count(0)", x.count(0), 12);
        drive(x, 1, 6, 52);
        due("tidy(11, 6)", x.tidy(11, 6), 2);
        due("count(0)", x.count(0), 6);
        drive(x, 1, 6, 52);
        due("read(1, 0)", x.read(1, 0), 0);
        drive(x, 0, 6, 52 + 20 + 3 + 3);
        due("read(0, 0)", x.read(0, 0), 0);
        drive(x, 0, 3, 78 + 6 + 3);
        due("tidy(0, 0)", x.tidy(0, 0), 4);
        due("ask(3)", x.ask(3), DONE);
        due("count(3)", x.count(3), 1);
        due("lose(1)", x.lose(1), 2);
        drive(x, 0, 3, 87);
        due("lose(0)", x.lose(0), 2);
        drive(x, -1, 0, 87);
        due("count(0)", x.count(0), 0);
        due("count(3)", x.count(3), 1);
    }
}
