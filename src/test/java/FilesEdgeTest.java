/** The boundary cases that promises 1 to 5 name: a new object, create, write, read and remove. */
public final class FilesEdgeTest {
    private static final int DONE = Run.DONE;
    private static final int REFUSED = Run.REFUSED;
    private static final int FULL = Run.FULL;
    private static final int GONE = Run.GONE;
    private static final int ABSENT = Run.ABSENT;
    private static final int RESIDENT = Run.RESIDENT;
    private static final int DOUBLE = Run.DOUBLE;
    private static final int STUB = Run.STUB;
    private static final int LOST = Run.LOST;
    private static final long NONE = Run.NONE;
    private static final long NO_ROOM = Run.NO_ROOM;
    private static final long NO_FILE = Run.NO_FILE;
    private static final int NO_CARTRIDGE = Run.NO_CARTRIDGE;

    private static final Check CHECK = new Check();

    public static void main(String[] args) {
        roomIsClamped();
        lengthIsClamped();
        aNewObjectHasNothing();

        createTakesFiles0To15();
        createTakesLengths1To4();
        createTakesAllSixteenFiles();
        createOnAnEmptyDiskMayTakeAllOfIt();
        createOnAFullDisk();
        createOnADiskThatIsFullButForOneUnit();
        createOnADiskFullOfDoubles();
        createThatIsFullKeepsTheStubs();
        createAnswersRefusedBeforeFull();
        createdCellsAreZero();
        createdFilesAreUsed();

        writeTakesTheCellsOfTheFile();
        writeOfAnAbsentFile();
        writeOfAResidentFile();
        writeOfADoubleFile();
        writeOfADoubleFileWithTheSameValue();
        writeOfAStub();
        writeOfAStubWithJustEnoughRoom();
        writeOfAStubWithOneUnitTooFew();
        writeOfAStubMakesRoom();
        writeThatIsFullKeepsTheStubs();
        writeOfALostFile();
        writeTestsTheCellBeforeTheState();

        readTakesTheCellsOfTheFile();
        readOfAnAbsentFile();
        readOfAResidentFile();
        readOfADoubleFile();
        readOfAStub();
        readOfAStubWithJustEnoughRoom();
        readOfAStubWithOneUnitTooFew();
        readOfAStubMakesRoom();
        readWithoutRoomKeepsTheStubs();
        readOfALostFile();
        readTestsTheCellBeforeTheState();

        removeTakesFiles0To15();
        removeOfAnAbsentFile();
        removeOfAResidentFile();
        removeOfADoubleFile();
        removeOfAStub();
        removeOfALostFile();
        removeEndsTheWaiting();
        CHECK.end();
    }

    private static Run run(String sentence, int room, int length) {
        CHECK.topic(sentence);
        return new Run(CHECK, room, length);
    }

    private static Run mixed(String sentence) {
        CHECK.topic(sentence);
        return Scenes.mixed(CHECK);
    }

    private static void roomIsClamped() {
        int[][] givenAndDue = {{Integer.MIN_VALUE, 4}, {-1, 4}, {0, 4}, {3, 4}, {4, 4}, {5, 5}, {6, 6}, {7, 7},
            {12, 12}, {23, 23}, {24, 24}, {25, 24}, {26, 24}, {Integer.MAX_VALUE, 24}};
        for (int[] pair : givenAndDue) {
            int room = pair[1];
            Run r = run("1 room " + pair[0] + ": clamped to 4 .. 24", pair[0], 4);
            for (int file = 0; file < room / 4; file++) {
                r.create(file, 4, DONE);
            }
            if (room % 4 != 0) {
                r.create(14, room % 4, DONE);
            }
            r.taken(room);
            r.create(15, 1, FULL);
        }
    }

    private static void lengthIsClamped() {
        int[][] givenAndDue = {{Integer.MIN_VALUE, 4}, {-1, 4}, {0, 4}, {3, 4}, {4, 4}, {5, 5}, {6, 6}, {7, 7},
            {12, 12}, {19, 19}, {20, 20}, {21, 20}, {22, 20}, {Integer.MAX_VALUE, 20}};
        for (int[] pair : givenAndDue) {
            int length = pair[1];
            Run r = run("1 length " + pair[0] + ": clamped to 4 .. 20", 4, pair[0]);
            r.create(0, 1, DONE);
            for (int place = 0; place < length; place++) {
                r.backUp(0);
                r.copyAt(0, 0, place);
                r.write(0, 0, place, DONE);
            }
            r.backUp(0);
            r.copyAt(0, 1, 0);
            r.ends(length, 1, 0, 0);
        }
    }

    private static void aNewObjectHasNothing() {
        Run r = run("1 a new object", 12, 12);
        for (int file = 0; file < Run.FILES; file++) {
            r.state(file, ABSENT);
            r.waits(file, false);
        }
        r.ends(0, 0, 0, 0);
        r.live(0, 0, 0, 0);
        r.drive(NO_CARTRIDGE, 0, 0);
        r.taken(0);
        r.waiting(0);
        r.backUp(REFUSED);
        r.serve(0);
        r.tidy(0, 0, 0);
    }

    private static void createTakesFiles0To15() {
        Run r = run("2 file 0 .. 15", 24, 20);
        r.create(-1, 1, REFUSED);
        r.create(16, 1, REFUSED);
        r.create(Integer.MIN_VALUE, 1, REFUSED);
        r.create(Integer.MAX_VALUE, 1, REFUSED);
        r.taken(0);
        r.create(0, 1, DONE);
        r.create(15, 1, DONE);
        r.state(0, RESIDENT);
        r.state(15, RESIDENT);
        r.taken(2);
    }

    private static void createTakesLengths1To4() {
        Run r = run("2 length 1 .. 4", 24, 20);
        r.create(0, 0, REFUSED);
        r.create(0, 5, REFUSED);
        r.create(0, -1, REFUSED);
        r.create(0, Integer.MIN_VALUE, REFUSED);
        r.create(0, Integer.MAX_VALUE, REFUSED);
        r.state(0, ABSENT);
        r.taken(0);
        for (int length = 1; length <= 4; length++) {
            r.create(length, length, DONE);
            r.file(length, 1, length);
        }
        r.taken(10);
    }

    private static void createTakesAllSixteenFiles() {
        Run r = run("2 all sixteen files", 24, 20);
        for (int file = 15; file >= 0; file--) {
            r.create(file, 1, DONE);
        }
        r.taken(16);
        r.usedInOrder(15, 14, 13, 12, 11, 10, 9, 8, 7, 6, 5, 4, 3, 2, 1, 0);
        r.create(0, 1, REFUSED);
        r.create(16, 1, REFUSED);
    }

    private static void createOnAnEmptyDiskMayTakeAllOfIt() {
        Run r = run("2 ROOM IS MADE of its length: all of an empty disk", 4, 4);
        r.create(7, 4, DONE);
        r.taken(4);
        r.states(ABSENT, ABSENT, ABSENT, ABSENT, ABSENT, ABSENT, ABSENT, RESIDENT);
    }

    private static void createOnAFullDisk() {
        Run r = Scenes.fullOfResidents(CHECK);
        CHECK.topic("2 if that can't be: FULL, on a full disk");
        for (int length = 1; length <= 4; length++) {
            r.create(9, length, FULL);
        }
        r.state(9, ABSENT);
        r.file(9, 1, 0);
        r.file(9, 5, REFUSED);
        r.taken(8);
        r.usedInOrder(3, 2, 0, 1);
    }

    private static void createOnADiskThatIsFullButForOneUnit() {
        Run r = run("2 if that can't be: FULL, on a disk full but for one unit", 5, 4);
        r.create(0, 4, DONE);
        r.create(1, 2, FULL);
        r.state(1, ABSENT);
        r.create(1, 1, DONE);
        r.taken(5);
        r.create(2, 1, FULL);
    }

    private static void createOnADiskFullOfDoubles() {
        Run r = Scenes.fullOfDoubles(CHECK);
        CHECK.topic("2 ROOM IS MADE of its length: on a disk full of DOUBLE files");
        r.create(6, 1, DONE);
        r.states(STUB, DOUBLE, DOUBLE, DOUBLE, STUB, LOST, RESIDENT);
        r.taken(7);
        r.create(7, 1, DONE);
        r.states(STUB, DOUBLE, DOUBLE, DOUBLE, STUB, LOST, RESIDENT, RESIDENT);
        r.create(8, 4, DONE);
        r.states(STUB, STUB, STUB, DOUBLE, STUB, LOST, RESIDENT, RESIDENT, RESIDENT);
        r.taken(8);
        r.cost(55);
    }

    private static void createThatIsFullKeepsTheStubs() {
        Run r = run("2 FULL (files that became stubs stay so)", 8, 20);
        r.createAndBackUpFrom(0, 1, 1);
        r.createFrom(2, 4, 1);
        r.create(15, 4, FULL);
        r.states(STUB, STUB, RESIDENT, RESIDENT);
        r.state(15, ABSENT);
        r.taken(5);
        r.usedInOrder(0, 1, 2, 3);
        r.copyAt(0, 0, 0);
        r.copyAt(1, 0, 1);
        r.drive(0, 2, 22);
    }

    private static void createAnswersRefusedBeforeFull() {
        Run r = Scenes.fullOfResidents(CHECK);
        CHECK.topic("2 The file is not absent: REFUSED, also where room can't be made");
        for (int file = 0; file < 4; file++) {
            r.create(file, 4, REFUSED);
        }
        r.create(16, 4, REFUSED);
        r.create(9, 5, REFUSED);
        r.create(9, 0, REFUSED);
        Run d = Scenes.fullOfDoubles(CHECK);
        for (int file = 0; file < 6; file++) {
            d.create(file, 4, REFUSED);
        }
        d.create(9, 5, REFUSED);
        d.create(-1, 4, REFUSED);
        d.states(DOUBLE, DOUBLE, DOUBLE, DOUBLE, STUB, LOST);
    }

    private static void createdCellsAreZero() {
        Run r = run("2 all cells 0", 8, 8);
        r.create(0, 4, DONE);
        for (int i = 0; i < 4; i++) {
            r.write(0, i, 7 + i, DONE);
        }
        r.remove(0, DONE);
        r.create(0, 4, DONE);
        for (int i = 0; i < 4; i++) {
            r.read(0, i, 0);
        }
        r.write(0, 3, 9, DONE);
        r.backUp(0);
        r.tidy(0, 0, 1);
        r.lose(0, 1);
        r.remove(0, DONE);
        r.create(0, 1, DONE);
        r.read(0, 0, 0);
        r.remove(0, DONE);
        r.create(0, 4, DONE);
        for (int i = 0; i < 4; i++) {
            r.read(0, i, 0);
        }
    }

    private static void createdFilesAreUsed() {
        Run r = mixed("2 Else it is RESIDENT and USED");
        r.create(Scenes.ABSENT_FILE, 4, DONE);
        r.state(Scenes.ABSENT_FILE, RESIDENT);
        r.noCopy(Scenes.ABSENT_FILE);
        r.waits(Scenes.ABSENT_FILE, false);
        r.usedInOrder(4, 6, 3, 5, 2, 1, 0);
        r.taken(9);
        r.drive(0, 10, 62);
    }

    private static void writeTakesTheCellsOfTheFile() {
        for (int length = 1; length <= 4; length++) {
            Run r = run("3 i 0 .. 3. i is not a cell of the file: REFUSED, length " + length, 8, 20);
            r.create(15, length, DONE);
            for (int i = 0; i < length; i++) {
                r.write(15, i, 100 + i, DONE);
            }
            for (int i = length; i < 5; i++) {
                r.write(15, i, 1, REFUSED);
            }
            r.write(15, -1, 1, REFUSED);
            r.write(15, Integer.MIN_VALUE, 1, REFUSED);
            r.write(15, Integer.MAX_VALUE, 1, REFUSED);
            for (int i = 0; i < length; i++) {
                r.read(15, i, 100 + i);
            }
        }
    }

    private static void writeOfAnAbsentFile() {
        Run r = mixed("3 (a file where one is needed must not be absent)");
        r.write(Scenes.ABSENT_FILE, 0, 1, REFUSED);
        r.write(15, 3, 1, REFUSED);
        r.write(-1, 0, 1, REFUSED);
        r.write(16, 0, 1, REFUSED);
        r.state(Scenes.ABSENT_FILE, ABSENT);
        r.usedInOrder(4, 6, 3, 5, 2, 1);
    }

    private static void writeOfAResidentFile() {
        Run r = mixed("3 of a RESIDENT file");
        r.read(Scenes.DOUBLE_FILE, 0, 0);
        r.write(Scenes.RESIDENT_FILE, 0, -10, DONE);
        r.state(Scenes.RESIDENT_FILE, RESIDENT);
        r.usedInOrder(4, 6, 3, 5, 2, 1);
        r.read(Scenes.RESIDENT_FILE, 0, -10);
        r.read(Scenes.RESIDENT_FILE, 1, 11);
        r.drive(0, 10, 62);
        r.taken(5);
    }

    private static void writeOfADoubleFile() {
        Run r = mixed("3 of a DOUBLE file: the file is RESIDENT and USED");
        r.write(Scenes.DOUBLE_FILE, 0, 20, DONE);
        r.state(Scenes.DOUBLE_FILE, RESIDENT);
        r.noCopy(Scenes.DOUBLE_FILE);
        r.usedInOrder(4, 6, 3, 5, 1, 2);
        r.live(5, 0, 0, 0);
        r.ends(10, 0, 0, 0);
        r.drive(0, 10, 62);
        r.taken(5);
    }

    private static void writeOfADoubleFileWithTheSameValue() {
        Run r = mixed("3 The cell gets the value, the file is RESIDENT: also if the value was there");
        r.write(Scenes.DOUBLE_FILE, 2, 22, DONE);
        r.state(Scenes.DOUBLE_FILE, RESIDENT);
        r.noCopy(Scenes.DOUBLE_FILE);
    }

    private static void writeOfAStub() {
        Run r = mixed("3 If it is a STUB it is BROUGHT BACK");
        r.write(Scenes.STUB_FILE, 2, -32, DONE);
        r.state(Scenes.STUB_FILE, RESIDENT);
        r.noCopy(Scenes.STUB_FILE);
        r.drive(0, 3, 62 + 10 + 3);
        r.usedInOrder(4, 6, 5, 2, 1, 3);
        r.taken(8);
        r.live(5, 0, 0, 0);
        r.ends(10, 0, 0, 0);
        r.read(Scenes.STUB_FILE, 0, 30);
        r.read(Scenes.STUB_FILE, 1, 0);
        r.read(Scenes.STUB_FILE, 2, -32);
    }

    private static void writeOfAStubWithJustEnoughRoom() {
        Run r = run("3 If it is a STUB it is BROUGHT BACK: just enough room", 8, 20);
        r.createAndBackUpFrom(0, 4);
        r.tidy(0, 0, 1);
        r.create(1, 4, DONE);
        r.write(0, 3, 5, DONE);
        r.states(RESIDENT, RESIDENT);
        r.taken(8);
        r.drive(0, 4, 24 + 4 + 4);
    }

    private static void writeOfAStubWithOneUnitTooFew() {
        Run r = run("3 if that can't be: FULL, one unit too few", 8, 20);
        r.createAndBackUpFrom(0, 4);
        r.tidy(0, 0, 1);
        r.createFrom(1, 4, 1);
        r.write(0, 3, 5, FULL);
        r.states(STUB, RESIDENT, RESIDENT);
        r.usedInOrder(0, 1, 2);
        r.taken(5);
        r.drive(0, 4, 24);
        r.copyAt(0, 0, 0);
        r.remove(2, DONE);
        r.read(0, 3, 0);
    }

    private static void writeOfAStubMakesRoom() {
        Run r = Scenes.fullOfDoubles(CHECK);
        CHECK.topic("3 If it is a STUB it is BROUGHT BACK: ROOM IS MADE");
        r.write(4, 0, 1, DONE);
        r.states(STUB, STUB, DOUBLE, DOUBLE, RESIDENT, LOST);
        r.taken(7);
        r.drive(0, 3, 55 + 11 + 3);
        r.write(0, 0, 1, DONE);
        r.states(RESIDENT, STUB, STUB, DOUBLE, RESIDENT, LOST);
        r.write(1, 0, 1, DONE);
        r.states(RESIDENT, RESIDENT, STUB, STUB, RESIDENT, LOST);
        r.write(2, 0, 1, FULL);
        r.states(RESIDENT, RESIDENT, STUB, STUB, RESIDENT, LOST);
        r.taken(7);
    }

    /** A STUB of four cells, and one unit less than that not taken by RESIDENT files: 0 .. 3. */
    private static Run oneDoubleTooFew(String sentence) {
        Run r = run(sentence, 8, 20);
        r.createAndBackUpFrom(0, 4, 1);
        r.createFrom(2, 4, 1);
        r.states(STUB, DOUBLE, RESIDENT, RESIDENT);
        return r;
    }

    private static void writeThatIsFullKeepsTheStubs() {
        Run r = oneDoubleTooFew("3 if that can't be: FULL, and what became a STUB stays one");
        r.write(0, 0, 1, FULL);
        r.states(STUB, STUB, RESIDENT, RESIDENT);
        r.taken(5);
        r.drive(0, 5, 25);
        r.usedInOrder(0, 1, 2, 3);
    }

    private static void readWithoutRoomKeepsTheStubs() {
        Run r = oneDoubleTooFew("4 if that can't be: NO_ROOM, and what became a STUB stays one");
        r.read(0, 0, NO_ROOM);
        r.states(STUB, STUB, RESIDENT, RESIDENT);
        r.taken(5);
        r.drive(0, 5, 25);
        r.usedInOrder(0, 1, 2, 3);
    }

    private static void writeOfALostFile() {
        Run r = mixed("3 The file is LOST: GONE");
        for (int i = 0; i < 4; i++) {
            r.write(Scenes.LOST_FILE, i, 1, GONE);
            r.write(Scenes.WAITING_LOST, i, 1, GONE);
        }
        r.state(Scenes.LOST_FILE, LOST);
        r.usedInOrder(4, 6, 3, 5, 2, 1);
        r.taken(5);
    }

    private static void writeTestsTheCellBeforeTheState() {
        Run r = Scenes.fullOfResidents(CHECK);
        CHECK.topic("3 i is not a cell: REFUSED. LOST: GONE. No room: FULL. In that order");
        r.write(3, 4, 1, REFUSED);
        r.write(3, -1, 1, REFUSED);
        r.write(3, 3, 1, GONE);
        r.write(2, 1, 1, REFUSED);
        r.write(2, 0, 1, FULL);
        Run d = Scenes.fullOfDoubles(CHECK);
        d.write(4, 3, 1, REFUSED);
        d.write(5, 0, 1, GONE);
        d.states(DOUBLE, DOUBLE, DOUBLE, DOUBLE, STUB, LOST);
        d.cost(55);
        Run s = run("3 i is not a cell of a LOST file with fewer cells: REFUSED", 8, 8);
        s.createAndBackUpFrom(0, 2);
        s.tidy(0, 0, 1);
        s.lose(0, 1);
        s.write(0, 2, 1, REFUSED);
        s.write(0, 1, 1, GONE);
    }

    private static void readTakesTheCellsOfTheFile() {
        for (int length = 1; length <= 4; length++) {
            Run r = run("4 i 0 .. 3. i is not a cell of the file: NONE, length " + length, 8, 20);
            r.create(0, length, DONE);
            r.write(0, length - 1, -7, DONE);
            r.read(0, length - 1, -7);
            for (int i = length; i < 5; i++) {
                r.read(0, i, NONE);
            }
            r.read(0, -1, NONE);
            r.read(0, Integer.MIN_VALUE, NONE);
            r.read(0, Integer.MAX_VALUE, NONE);
            r.backUp(0);
            r.read(0, length, NONE);
            r.tidy(0, 0, 1);
            r.read(0, length, NONE);
            r.state(0, STUB);
        }
    }

    private static void readOfAnAbsentFile() {
        Run r = mixed("4 (a file where one is needed must not be absent)");
        r.read(Scenes.ABSENT_FILE, 0, NONE);
        r.read(15, 3, NONE);
        r.read(-1, 0, NONE);
        r.read(16, 0, NONE);
        r.read(Integer.MIN_VALUE, 0, NONE);
        r.read(Integer.MAX_VALUE, 0, NONE);
        r.usedInOrder(4, 6, 3, 5, 2, 1);
    }

    private static void readOfAResidentFile() {
        Run r = mixed("4 of a RESIDENT file: USED, and it stays RESIDENT");
        r.read(Scenes.DOUBLE_FILE, 0, 0);
        r.read(Scenes.RESIDENT_FILE, 0, 10);
        r.state(Scenes.RESIDENT_FILE, RESIDENT);
        r.usedInOrder(4, 6, 3, 5, 2, 1);
        r.drive(0, 10, 62);
    }

    private static void readOfADoubleFile() {
        Run r = mixed("4 of a DOUBLE file: USED, and it stays DOUBLE");
        r.read(Scenes.DOUBLE_FILE, 2, 22);
        r.state(Scenes.DOUBLE_FILE, DOUBLE);
        r.copyAt(Scenes.DOUBLE_FILE, 0, 7);
        r.usedInOrder(4, 6, 3, 5, 1, 2);
        r.drive(0, 10, 62);
    }

    private static void readOfAStub() {
        Run r = mixed("4 If it is a STUB it is BROUGHT BACK");
        r.read(Scenes.STUB_FILE, 2, 32);
        r.state(Scenes.STUB_FILE, DOUBLE);
        r.copyAt(Scenes.STUB_FILE, 0, 0);
        r.usedInOrder(4, 6, 5, 2, 1, 3);
        r.drive(0, 3, 62 + 10 + 3);
        r.taken(8);
        r.live(8, 0, 0, 0);
        r.read(Scenes.STUB_FILE, 0, 30);
        r.drive(0, 3, 75);
    }

    private static void readOfAStubWithJustEnoughRoom() {
        Run r = run("4 If it is a STUB it is BROUGHT BACK: just enough room", 8, 20);
        r.createAndBackUpFrom(0, 4);
        r.tidy(0, 0, 1);
        r.createAndBackUpFrom(1, 4);
        r.read(0, 3, 0);
        r.states(DOUBLE, DOUBLE);
        r.taken(8);
    }

    private static void readOfAStubWithOneUnitTooFew() {
        Run r = run("4 if that can't be: NO_ROOM, one unit too few", 8, 20);
        r.createAndBackUpFrom(0, 4);
        r.tidy(0, 0, 1);
        r.createFrom(1, 4, 1);
        r.read(0, 0, NO_ROOM);
        r.states(STUB, RESIDENT, RESIDENT);
        r.usedInOrder(0, 1, 2);
        r.drive(0, 4, 24);
        r.taken(5);
        r.remove(2, DONE);
        r.read(0, 0, 0);
    }

    private static void readOfAStubMakesRoom() {
        Run r = Scenes.fullOfDoubles(CHECK);
        CHECK.topic("4 If it is a STUB it is BROUGHT BACK: ROOM IS MADE");
        r.read(4, 0, 0);
        r.states(STUB, STUB, DOUBLE, DOUBLE, DOUBLE, LOST);
        r.taken(7);
        r.drive(0, 3, 55 + 11 + 3);
        r.read(0, 0, 0);
        r.states(DOUBLE, STUB, STUB, DOUBLE, DOUBLE, LOST);
        r.drive(0, 5, 69 + 2);
        r.usedInOrder(5, 1, 2, 3, 4, 0);
    }

    private static void readOfALostFile() {
        Run r = mixed("4 The file is LOST: NO_FILE");
        for (int i = 0; i < 4; i++) {
            r.read(Scenes.LOST_FILE, i, NO_FILE);
            r.read(Scenes.WAITING_LOST, i, NO_FILE);
        }
        r.state(Scenes.LOST_FILE, LOST);
        r.usedInOrder(4, 6, 3, 5, 2, 1);
        r.taken(5);
        r.drive(0, 10, 62);
    }

    private static void readTestsTheCellBeforeTheState() {
        Run r = Scenes.fullOfResidents(CHECK);
        CHECK.topic("4 i is not a cell: NONE. LOST: NO_FILE. No room: NO_ROOM. In that order");
        r.read(3, 4, NONE);
        r.read(3, -1, NONE);
        r.read(3, 3, NO_FILE);
        r.read(2, 1, NONE);
        r.read(2, 0, NO_ROOM);
        Run d = Scenes.fullOfDoubles(CHECK);
        d.read(4, 3, NONE);
        d.read(5, 0, NO_FILE);
        d.states(DOUBLE, DOUBLE, DOUBLE, DOUBLE, STUB, LOST);
        d.cost(55);
        Run s = run("4 i is not a cell of a LOST file with fewer cells: NONE", 8, 8);
        s.createAndBackUpFrom(0, 2);
        s.tidy(0, 0, 1);
        s.lose(0, 1);
        s.read(0, 2, NONE);
        s.read(0, 1, NO_FILE);
    }

    private static void removeTakesFiles0To15() {
        Run r = run("5 file 0 .. 15", 8, 8);
        r.create(0, 1, DONE);
        r.create(15, 4, DONE);
        r.remove(-1, REFUSED);
        r.remove(16, REFUSED);
        r.remove(Integer.MIN_VALUE, REFUSED);
        r.remove(Integer.MAX_VALUE, REFUSED);
        r.taken(5);
        r.remove(0, DONE);
        r.taken(4);
        r.remove(15, DONE);
        r.taken(0);
    }

    private static void removeOfAnAbsentFile() {
        Run r = mixed("5 (a file where one is needed must not be absent)");
        r.remove(Scenes.ABSENT_FILE, REFUSED);
        r.remove(Scenes.STUB_FILE, DONE);
        r.remove(Scenes.STUB_FILE, REFUSED);
    }

    private static void removeOfAResidentFile() {
        Run r = mixed("5 The file is absent from now on: of a RESIDENT file");
        r.remove(Scenes.RESIDENT_FILE, DONE);
        isAbsent(r, Scenes.RESIDENT_FILE);
        r.usedInOrder(4, 6, 3, 5, 2);
        r.taken(3);
        r.live(8, 0, 0, 0);
        r.drive(0, 10, 62);
        r.backUp(REFUSED);
    }

    private static void removeOfADoubleFile() {
        Run r = mixed("5 a copy of it is dead: of a DOUBLE file");
        r.remove(Scenes.DOUBLE_FILE, DONE);
        isAbsent(r, Scenes.DOUBLE_FILE);
        r.taken(2);
        r.live(5, 0, 0, 0);
        r.ends(10, 0, 0, 0);
        r.drive(0, 10, 62);
        r.tidy(0, 0, 0);
        r.lose(0, 2);
        r.state(Scenes.DOUBLE_FILE, ABSENT);
    }

    private static void removeOfAStub() {
        Run r = mixed("5 a copy of it is dead: of a STUB");
        r.remove(Scenes.STUB_FILE, DONE);
        isAbsent(r, Scenes.STUB_FILE);
        r.taken(5);
        r.live(5, 0, 0, 0);
        r.ends(10, 0, 0, 0);
        r.waiting(2);
        r.lose(0, 1);
        r.state(Scenes.STUB_FILE, ABSENT);
    }

    private static void removeOfALostFile() {
        Run r = mixed("5 The file is absent from now on: of a LOST file");
        r.remove(Scenes.LOST_FILE, DONE);
        isAbsent(r, Scenes.LOST_FILE);
        r.usedInOrder(6, 3, 5, 2, 1);
        r.waiting(2);
        r.create(Scenes.LOST_FILE, 1, DONE);
        r.state(Scenes.LOST_FILE, RESIDENT);
    }

    private static void removeEndsTheWaiting() {
        Run r = mixed("5 If it is waiting for serve it waits no more");
        r.remove(Scenes.WAITING_STUB, DONE);
        isAbsent(r, Scenes.WAITING_STUB);
        r.waiting(1);
        r.remove(Scenes.WAITING_LOST, DONE);
        isAbsent(r, Scenes.WAITING_LOST);
        r.waiting(0);
        r.create(Scenes.WAITING_STUB, 1, DONE);
        r.waits(Scenes.WAITING_STUB, false);
        r.serve(0);
        Run six = Scenes.sixWait(CHECK);
        six.ask(6, FULL);
        six.remove(3, DONE);
        six.waiting(5);
        six.ask(6, DONE);
        six.waiting(6);
    }

    private static void isAbsent(Run r, int file) {
        int[] wanted = {ABSENT, 0, REFUSED, REFUSED, 0, REFUSED};
        for (int what = 0; what < wanted.length; what++) {
            r.file(file, what, wanted[what]);
        }
    }
}
