/** The boundary cases that promises 10 and 11 name: empty and lose. */
public final class CartridgesEdgeTest {
    private static final int DONE = Run.DONE;
    private static final int REFUSED = Run.REFUSED;
    private static final int FULL = Run.FULL;
    private static final int ABSENT = Run.ABSENT;
    private static final int RESIDENT = Run.RESIDENT;
    private static final int DOUBLE = Run.DOUBLE;
    private static final int STUB = Run.STUB;
    private static final int LOST = Run.LOST;
    private static final int NO_CARTRIDGE = Run.NO_CARTRIDGE;
    private static final int[] BAD_CARTRIDGES = {-1, 4, 5, Integer.MIN_VALUE, Integer.MAX_VALUE};

    private static final Check CHECK = new Check();

    public static void main(String[] args) {
        emptyTakesCartridges0To3();
        emptyOfAnEmptyCartridge();
        emptyOfDeadCopiesAlone();
        emptyOfOneCopy();
        emptyWithNoneHeld();
        emptyWithAnotherHeld();
        emptyLooksAtTheOthersByRisingNumber();
        emptyGoesByRisingPlaces();
        emptyPassesOverDeadCopies();
        emptyKeepsTheStates();
        emptyOfSixteenCopies();
        emptyOfAFullCartridge();
        emptyWithTheOthersFull();
        emptyWithTheOthersFullButForOneUnit();
        emptyWithJustEnoughPlaces();
        emptyWithAPlaceForTheFirstAlone();
        emptyDoesNotUseTheCartridgeItself();
        emptyTriesInTheOrderOfTheMove();
        emptyTriesWithoutTheHeldCartridgeFirst();
        emptyOfDeadCopiesWithTheOthersFull();
        emptyLeavesTheHeadBehindTheEnd();

        loseTakesCartridges0To3();
        loseOfAnEmptyCartridge();
        loseOfAFileInEachState();
        loseOfDoublesAlone();
        loseOfSixteenStubs();
        loseOfAFullCartridge();
        loseOfACartridgeFullButForOneUnit();
        loseOfTheHeldCartridge();
        loseOfACartridgeThatIsNotHeld();
        loseOfAnEarlierCopy();
        loseOfTheCopyOfARemovedFile();
        loseKeepsTheCellsOfADouble();
        loseKeepsTheWaiting();
        CHECK.end();
    }

    private static Run run(String sentence, int room, int length) {
        CHECK.topic(sentence);
        return new Run(CHECK, room, length);
    }

    private static Run mixed(String sentence) {
        CHECK.topic(sentence);
        return Scenes.mixed(CHECK);
    }

    private static Run fullCartridges(String sentence) {
        CHECK.topic(sentence);
        return Scenes.fullCartridges(CHECK);
    }

    private static void emptyTakesCartridges0To3() {
        Run r = mixed("10 a cartridge 0 .. 3");
        for (int bad : BAD_CARTRIDGES) {
            r.empty(bad, REFUSED);
        }
        r.ends(10, 0, 0, 0);
        r.empty(3, 0);
        r.empty(0, 3);
        Run full = fullCartridges("10 a cartridge 0 .. 3: REFUSED before FULL");
        for (int bad : BAD_CARTRIDGES) {
            full.empty(bad, REFUSED);
        }
    }

    private static void emptyOfAnEmptyCartridge() {
        Run r = run("10 of an empty cartridge", 4, 4);
        for (int cartridge = 0; cartridge < Run.CARTRIDGES; cartridge++) {
            r.empty(cartridge, 0);
        }
        r.drive(NO_CARTRIDGE, 0, 0);
        r.ends(0, 0, 0, 0);
        r.createAndBackUpFrom(0, 2);
        r.empty(1, 0);
        r.drive(0, 2, 22);
        r.ends(2, 0, 0, 0);
    }

    private static void emptyOfDeadCopiesAlone() {
        Run r = run("10 Its live copies: there is none", 8, 8);
        r.createAndBackUpFrom(0, 4, 4);
        r.write(0, 0, 1, DONE);
        r.remove(1, DONE);
        r.ends(8, 0, 0, 0);
        r.empty(0, 0);
        r.ends(0, 0, 0, 0);
        r.drive(0, 8, 28);
        r.state(0, RESIDENT);
    }

    private static void emptyOfOneCopy() {
        Run r = run("10 of one copy", 24, 8);
        r.createAndBackUpFrom(0, 3);
        r.empty(0, 1);
        r.copyAt(0, 1, 0);
        r.ends(0, 3, 0, 0);
        r.live(0, 3, 0, 0);
        r.drive(1, 3, 23 + (3 + 3) + (20 + 3));
        r.state(0, DOUBLE);
    }

    private static void emptyWithNoneHeld() {
        Run r = run("10 GO to the old copy's first place: the drive holds none", 24, 4);
        r.createAndBackUpFrom(0, 4, 4);
        r.lose(1, 0);
        r.drive(NO_CARTRIDGE, 0, 48);
        r.empty(0, 1);
        r.copyAt(0, 1, 0);
        r.drive(1, 4, 48 + 24 + 24);
    }

    private static void emptyWithAnotherHeld() {
        Run r = run("10 GO to the old copy's first place: the drive holds another", 24, 5);
        r.createAndBackUpFrom(0, 4, 2);
        r.drive(1, 2, 46);
        r.empty(0, 1);
        r.copyAt(0, 2, 0);
        r.ends(0, 2, 4, 0);
        r.drive(2, 4, 46 + 24 + 24);
    }

    private static void emptyLooksAtTheOthersByRisingNumber() {
        Run r = run("10 so the others are looked at by rising number", 24, 6);
        r.createAndBackUpFrom(0, 2, 4, 4, 3);
        r.ends(6, 4, 3, 0);
        r.remove(1, DONE);
        r.drive(2, 3, 73);
        // Cartridge 2 was held before and has the place as well.
        r.empty(0, 1);
        r.copyAt(0, 1, 4);
        r.ends(0, 6, 3, 0);
        r.drive(1, 6, 73 + (20 + 2) + (20 + 4 + 2));
        CHECK.topic("10 so the others are looked at by rising number: of cartridge 3 and of 1");
        Run s = oneOnEach();
        s.remove(0, DONE);
        s.empty(0, 0);
        s.empty(3, 1);
        s.copyAt(3, 0, 0);
        s.empty(1, 1);
        s.copyAt(1, 3, 0);
    }

    /** The DOUBLE files 0 .. 3 of four cells fill the cartridges of their numbers. */
    private static Run oneOnEach() {
        Run r = new Run(CHECK, 24, 4);
        r.createAndBackUpFrom(0, 4, 4, 4, 4);
        return r;
    }

    private static void emptyGoesByRisingPlaces() {
        Run r = run("10 Its live copies, by rising places", 24, 20);
        r.createAndBackUpFrom(2, 1);
        r.createAndBackUpFrom(1, 2);
        r.createAndBackUpFrom(0, 3);
        r.empty(0, 3);
        r.copyAt(2, 1, 0);
        r.copyAt(1, 1, 1);
        r.copyAt(0, 1, 3);
        int moves = (6 + 1) + (20 + 1) + (20 + 1 + 2) + (20 + 1 + 2) + (20 + 3 + 3) + (20 + 3 + 3);
        r.drive(1, 6, 26 + moves);
    }

    private static void emptyPassesOverDeadCopies() {
        Run r = run("10 Its live copies: not the dead ones between them", 24, 20);
        r.createAndBackUpFrom(0, 2, 3, 1);
        r.write(1, 0, 1, DONE);
        r.empty(0, 2);
        r.copyAt(0, 1, 0);
        r.copyAt(2, 1, 2);
        r.noCopy(1);
        r.ends(0, 3, 0, 0);
        r.drive(1, 3, 26 + (6 + 2) + (20 + 2) + (20 + 5 + 1) + (20 + 2 + 1));
    }

    private static void emptyKeepsTheStates() {
        Run r = mixed("10 the file is COPIED and keeps its state");
        r.empty(0, 3);
        r.states(ABSENT, RESIDENT, DOUBLE, STUB, LOST, STUB, LOST);
        r.copyAt(3, 1, 0);
        r.copyAt(5, 1, 3);
        r.copyAt(2, 1, 5);
        r.ends(0, 8, 0, 0);
        r.live(0, 8, 0, 0);
        r.drive(1, 8, 62 + (10 + 3) + 23 + 25 + 25 + 30 + 28);
        r.usedInOrder(4, 6, 3, 5, 2, 1);
        r.waits(Scenes.WAITING_STUB, true);
        r.waits(Scenes.WAITING_LOST, true);
        r.waiting(2);
        r.taken(5);
        r.read(Scenes.STUB_FILE, 2, 32);
        r.drive(1, 3, 206 + 8 + 3);
        r.read(Scenes.WAITING_STUB, 1, 51);
    }

    private static void emptyOfSixteenCopies() {
        Run r = run("10 Answers how many files were copied: all sixteen", 24, 20);
        for (int file = 0; file < Run.FILES; file++) {
            r.createAndBackUpFrom(file, 1);
        }
        r.empty(0, 16);
        // The first is 16 places back; then each one goes k places on either cartridge.
        int moves = (16 + 1) + (20 + 1);
        for (int k = 1; k < 16; k++) {
            moves += (20 + k + 1) + (20 + k + 1);
        }
        r.drive(1, 16, 36 + moves);
        r.cost(944);
        r.ends(0, 16, 0, 0);
        for (int file = 0; file < Run.FILES; file++) {
            r.copyAt(file, 1, file);
        }
    }

    private static void emptyOfAFullCartridge() {
        Run r = run("10 of a full cartridge of 20 units", 24, 20);
        r.createAndBackUpFrom(0, 4, 4, 4, 4, 4);
        r.ends(20, 0, 0, 0);
        r.empty(0, 5);
        r.ends(0, 20, 0, 0);
        r.live(0, 20, 0, 0);
        int moves = 20 + 4 + 24;
        for (int place = 4; place < 20; place += 4) {
            moves += 2 * (20 + place + 4);
        }
        r.drive(1, 20, 40 + moves);
    }

    private static void emptyWithTheOthersFull() {
        Run r = fullCartridges("10 if not: FULL, all others full");
        for (int cartridge = 0; cartridge < Run.CARTRIDGES; cartridge++) {
            r.empty(cartridge, FULL);
            r.copyAt(cartridge, cartridge, 0);
        }
        r.ends(4, 4, 4, 4);
        r.live(4, 4, 4, 4);
        r.drive(3, 4, 96);
        r.states(DOUBLE, DOUBLE, DOUBLE, DOUBLE, RESIDENT);
    }

    /** File 0 at the start of cartridge 0, whose rest is dead; the others are full but for one unit. */
    private static Run othersFullButForOneUnit(int length) {
        Run r = new Run(CHECK, 24, 5);
        r.createAndBackUpFrom(0, length, 4, 4, 4);
        if (length == 1) {
            // File 1 filled cartridge 0: one more is needed for cartridge 3.
            r.createAndBackUpFrom(4, 4);
            r.remove(1, DONE);
        }
        r.ends(length == 1 ? 5 : length, 4, 4, 4);
        return r;
    }

    private static void emptyWithTheOthersFullButForOneUnit() {
        CHECK.topic("10 if not: FULL, a copy of one unit too many");
        for (int length = 2; length <= 4; length++) {
            Run r = othersFullButForOneUnit(length);
            r.empty(0, FULL);
            r.copyAt(0, 0, 0);
            r.drive(3, 4, 20 + length + 3 * 24);
        }
        CHECK.topic("10 all of them will find a place: the last unit of a cartridge");
        Run r = othersFullButForOneUnit(1);
        r.empty(0, 1);
        r.copyAt(0, 1, 4);
        r.ends(0, 5, 4, 4);
    }

    private static void emptyWithJustEnoughPlaces() {
        Run r = run("10 all of them will find a place: just enough", 24, 4);
        r.createAndBackUpFrom(0, 2, 1, 1, 4, 4);
        r.ends(4, 4, 4, 0);
        r.empty(0, 3);
        r.copyAt(0, 3, 0);
        r.copyAt(1, 3, 2);
        r.copyAt(2, 3, 3);
        r.ends(0, 4, 4, 4);
        r.empty(3, 3);
        r.ends(4, 4, 4, 0);
        r.copyAt(2, 0, 3);
    }

    private static void emptyWithAPlaceForTheFirstAlone() {
        Run r = run("10 without any change and cost: there is a place for the first alone", 24, 5);
        r.createAndBackUpFrom(0, 1, 3, 4, 4, 4);
        r.ends(4, 4, 4, 4);
        r.empty(0, FULL);
        r.copyAt(0, 0, 0);
        r.copyAt(1, 0, 1);
        r.ends(4, 4, 4, 4);
        r.drive(3, 4, 96);
        r.empty(0, FULL);
        r.remove(1, DONE);
        r.empty(0, 1);
        r.copyAt(0, 1, 4);
    }

    private static void emptyDoesNotUseTheCartridgeItself() {
        Run r = run("10 onto any but this cartridge", 24, 8);
        r.createAndBackUpFrom(0, 4, 4, 4, 4, 4, 4);
        r.createAndBackUpFrom(6, 4);
        r.ends(8, 8, 8, 4);
        r.empty(3, FULL);
        r.copyAt(6, 3, 0);
        r.ends(8, 8, 8, 4);
    }

    private static void emptyTriesInTheOrderOfTheMove() {
        Run r = run("10 will find a place in this way: by rising places, not in a better order", 24, 6);
        r.createAndBackUpFrom(0, 2, 3, 3, 4);
        r.ends(5, 3, 4, 0);
        r.createAndBackUpFrom(4, 2, 4);
        r.ends(5, 3, 6, 4);
        // File 0 takes cartridge 1, where 1 would have gone; 3 has the two units for 0 alone.
        r.empty(0, FULL);
        r.copyAt(0, 0, 0);
        r.copyAt(1, 0, 2);
    }

    private static void emptyTriesWithoutTheHeldCartridgeFirst() {
        Run r = run("10 in this way: the held cartridge is not looked at first", 24, 6);
        r.createAndBackUpFrom(0, 2, 3, 4, 4, 2, 3);
        r.ends(5, 4, 6, 3);
        r.drive(3, 3, 98);
        r.empty(0, 2);
        r.copyAt(0, 1, 4);
        r.copyAt(1, 3, 3);
        r.ends(0, 6, 6, 6);
    }

    private static void emptyOfDeadCopiesWithTheOthersFull() {
        Run r = fullCartridges("10 nothing is to be copied: not FULL, though the others are full");
        r.remove(1, DONE);
        r.empty(1, 0);
        r.ends(4, 0, 4, 4);
        r.drive(3, 4, 96);
    }

    private static void emptyLeavesTheHeadBehindTheEnd() {
        Run r = run("10 END is 0 (the drive and its head stay as they are)", 8, 8);
        r.createAndBackUpFrom(0, 4);
        r.write(0, 0, 1, DONE);
        r.empty(0, 0);
        r.drive(0, 4, 24);
        r.backUp(0);
        r.copyAt(0, 0, 0);
        r.drive(0, 4, 24 + 4 + 4);
    }

    private static void loseTakesCartridges0To3() {
        Run r = mixed("11 Cartridge 0 .. 3");
        for (int bad : BAD_CARTRIDGES) {
            r.lose(bad, REFUSED);
        }
        r.drive(0, 10, 62);
        r.lose(3, 0);
        r.drive(0, 10, 62);
        r.lose(0, 2);
        Run s = fullCartridges("11 Cartridge 0 .. 3: the last one");
        s.lose(3, 0);
        s.states(DOUBLE, DOUBLE, DOUBLE, RESIDENT, RESIDENT);
    }

    private static void loseOfAnEmptyCartridge() {
        Run r = run("11 of an empty cartridge", 4, 4);
        for (int cartridge = 0; cartridge < Run.CARTRIDGES; cartridge++) {
            r.lose(cartridge, 0);
        }
        r.drive(NO_CARTRIDGE, 0, 0);
        r.ends(0, 0, 0, 0);
        r.createAndBackUpFrom(0, 1);
        r.tidy(0, 0, 1);
        r.lose(1, 0);
        r.state(0, STUB);
        r.drive(0, 1, 21);
    }

    private static void loseOfAFileInEachState() {
        Run r = mixed("11 each STUB is LOST, each DOUBLE file is RESIDENT");
        r.lose(0, 2);
        r.states(ABSENT, RESIDENT, RESIDENT, LOST, LOST, LOST, LOST);
        for (int file = 0; file <= 6; file++) {
            r.noCopy(file);
        }
        r.ends(0, 0, 0, 0);
        r.live(0, 0, 0, 0);
        r.drive(NO_CARTRIDGE, 0, 62);
        r.usedInOrder(4, 6, 3, 5, 2, 1);
        r.taken(5);
        r.file(3, 1, 3);
        r.lose(0, 0);
    }

    private static void loseOfDoublesAlone() {
        CHECK.topic("11 Answers how many files became LOST: DOUBLE ones do not");
        Run r = Scenes.fullOfDoubles(CHECK);
        r.remove(4, DONE);
        r.lose(0, 0);
        r.states(RESIDENT, RESIDENT, RESIDENT, RESIDENT, ABSENT, LOST);
        r.taken(8);
        r.create(6, 1, Run.FULL);
    }

    private static void loseOfSixteenStubs() {
        Run r = run("11 Answers how many files became LOST: all sixteen", 24, 20);
        for (int file = 0; file < Run.FILES; file++) {
            r.createAndBackUpFrom(file, 1);
        }
        r.tidy(0, 0, 16);
        r.lose(0, 16);
        for (int file = 0; file < Run.FILES; file++) {
            r.state(file, LOST);
        }
        r.taken(0);
    }

    private static void loseOfAFullCartridge() {
        Run r = fullCartridges("11 replaced by an empty one: a full one was lost");
        r.backUp(FULL);
        r.lose(1, 0);
        r.ends(4, 0, 4, 4);
        r.states(DOUBLE, RESIDENT, DOUBLE, DOUBLE, RESIDENT);
        r.backUp(1);
        r.copyAt(1, 1, 0);
        r.ends(4, 4, 4, 4);
    }

    private static void loseOfACartridgeFullButForOneUnit() {
        Run r = run("11 replaced by an empty one: one full but for one unit was lost", 24, 20);
        r.createAndBackUpFrom(0, 4, 4, 4, 4, 3);
        r.tidy(18, 18, 1);
        r.ends(19, 0, 0, 0);
        r.lose(0, 1);
        r.ends(0, 0, 0, 0);
        r.live(0, 0, 0, 0);
        r.states(LOST, RESIDENT, RESIDENT, RESIDENT, RESIDENT);
        r.backUp(1);
        r.copyAt(1, 0, 0);
    }

    private static void loseOfTheHeldCartridge() {
        Run r = run("11 if the drive holds it, the drive holds none", 8, 8);
        r.createAndBackUpFrom(0, 3);
        r.drive(0, 3, 23);
        r.lose(0, 0);
        r.drive(NO_CARTRIDGE, 0, 23);
        r.backUp(0);
        // The new cartridge of the same number is not in the drive: 20 again.
        r.copyAt(0, 0, 0);
        r.drive(0, 3, 23 + 23);
    }

    private static void loseOfACartridgeThatIsNotHeld() {
        Run r = fullCartridges("11 if the drive holds it: it does not");
        r.lose(0, 0);
        r.drive(3, 4, 96);
        r.lose(2, 0);
        r.drive(3, 4, 96);
        r.ends(0, 4, 0, 4);
        r.lose(3, 0);
        r.drive(NO_CARTRIDGE, 0, 96);
    }

    private static void loseOfAnEarlierCopy() {
        Run r = run("11 with its copy on it: not one whose last copy is elsewhere", 24, 4);
        r.createAndBackUpFrom(0, 3);
        r.write(0, 0, 8, DONE);
        r.lose(0, 0);
        r.state(0, RESIDENT);
        r.backUp(0);
        r.write(0, 0, 9, DONE);
        r.backUp(0);
        r.copyAt(0, 1, 0);
        r.ends(3, 3, 0, 0);
        r.lose(0, 0);
        r.state(0, DOUBLE);
        r.copyAt(0, 1, 0);
        r.tidy(0, 0, 1);
        r.lose(0, 0);
        r.state(0, STUB);
        r.lose(1, 1);
        r.state(0, LOST);
    }

    private static void loseOfTheCopyOfARemovedFile() {
        Run r = run("11 with its copy on it: the copy of a removed file is dead", 24, 4);
        r.createAndBackUpFrom(0, 2);
        r.tidy(0, 0, 1);
        r.remove(0, DONE);
        r.lose(0, 0);
        r.state(0, ABSENT);
        r.create(0, 2, DONE);
        r.lose(0, 0);
        r.state(0, RESIDENT);
    }

    private static void loseKeepsTheCellsOfADouble() {
        Run r = mixed("11 each DOUBLE file with its copy on it is RESIDENT");
        r.lose(0, 2);
        r.read(Scenes.DOUBLE_FILE, 2, 22);
        r.read(Scenes.STUB_FILE, 2, Run.NO_FILE);
        r.backUp(Scenes.RESIDENT_FILE);
        r.backUp(Scenes.DOUBLE_FILE);
        r.copyAt(Scenes.DOUBLE_FILE, 0, 2);
        r.drive(0, 5, 62 + 25);
    }

    private static void loseKeepsTheWaiting() {
        Run r = mixed("11 a STUB that waits is LOST and waits until serve");
        r.lose(0, 2);
        r.waits(Scenes.WAITING_STUB, true);
        r.waiting(2);
        r.serve(0);
        r.waiting(0);
        r.state(Scenes.WAITING_STUB, LOST);
    }
}
