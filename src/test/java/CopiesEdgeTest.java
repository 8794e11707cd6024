/** The boundary cases that promises 6 to 9 name: backUp, tidy, ask and serve. */
public final class CopiesEdgeTest {
    private static final int DONE = Run.DONE;
    private static final int REFUSED = Run.REFUSED;
    private static final int FULL = Run.FULL;
    private static final int RESIDENT = Run.RESIDENT;
    private static final int DOUBLE = Run.DOUBLE;
    private static final int STUB = Run.STUB;
    private static final int LOST = Run.LOST;
    private static final int NO_CARTRIDGE = Run.NO_CARTRIDGE;

    private static final Check CHECK = new Check();

    public static void main(String[] args) {
        backUpWithNoFile();
        backUpWithNoResidentFile();
        backUpTakesTheLongestUnused();
        backUpAnswersTheLeastAndTheGreatestFile();
        backUpMakesItDouble();
        backUpIsNoUse();
        backUpWithAllCartridgesFull();
        backUpWithAllCartridgesFullButForOneUnit();
        backUpDoesNotPassOverAFileThatIsTooLong();
        backUpAnswersRefusedBeforeFull();
        backUpAfterACartridgeIsEmptyAgain();

        tidyTakes0To24();
        tidyTakesLowNotAboveHigh();
        tidyWithJustHighTaken();
        tidyWithOneMoreThanHighTaken();
        tidyEndsWithJustLowTaken();
        tidyGoesOnWithOneMoreThanLowTaken();
        tidyOfAnEmptyDisk();
        tidyOfAFullDisk();
        tidyOfADiskFullButForOneUnit();
        tidyOfAFullDiskWithNoDouble();
        tidyEndsWhenThereIsNoDouble();
        tidyOfSixteenFiles();
        tidyTakesTheLongestUnused();
        tidyIsNoMovementAndNoUse();

        askTakesFiles0To15();
        askOfAFileInEachState();
        askOfTheSixthAndOfTheSeventh();
        askAnswersRefusedBeforeFull();
        askOfLostFileWhileSixWait();
        askCountsFilesThatAreNoStubsAnyMore();
        askAfterServe();

        serveWithNobodyWaiting();
        serveOfStubsThatDoNotWait();
        serveOfSix();
        serveGoesByRisingPlaces();
        serveBeginsWithTheHeldCartridge();
        serveWorksTheOrderOutBefore();
        serveWithNoneHeld();
        serveWithNothingOnTheHeldCartridge();
        serveOfFilesThatAreNoStubsAnyMore();
        serveOfAFileThatIsAStubAgain();
        serveOfLostFiles();
        serveLeavesWhatBecomesAStubMeanwhile();
        serveWithJustEnoughRoom();
        serveWithOneUnitTooFew();
        serveTriesTheOthersAllTheSame();
        serveKeepsTheStubsOfATryThatFailed();
        serveMayPushOutWhatItBroughtBack();
        serveAfterServe();
        serveAfterEmpty();
        CHECK.end();
    }

    private static Run run(String sentence, int room, int length) {
        CHECK.topic(sentence);
        return new Run(CHECK, room, length);
    }

    private static Run mixed(String sentence) {
        CHECK.topic(sentence);
        return Scenes.mixed(CHECK);
    }

    private static Run fullOfDoubles(String sentence) {
        CHECK.topic(sentence);
        return Scenes.fullOfDoubles(CHECK);
    }

    private static Run sixWait(String sentence) {
        CHECK.topic(sentence);
        return Scenes.sixWait(CHECK);
    }

    private static void backUpWithNoFile() {
        Run r = run("6 No file is RESIDENT: REFUSED, there is none at all", 4, 4);
        r.backUp(REFUSED);
        r.drive(NO_CARTRIDGE, 0, 0);
        r.ends(0, 0, 0, 0);
    }

    private static void backUpWithNoResidentFile() {
        Run r = run("6 No file is RESIDENT: REFUSED, a DOUBLE, STUB or LOST one alone", 8, 8);
        r.createAndBackUpFrom(0, 2);
        r.backUp(REFUSED);
        r.tidy(0, 0, 1);
        r.backUp(REFUSED);
        r.state(0, STUB);
        r.lose(0, 1);
        r.backUp(REFUSED);
        r.state(0, LOST);
        r.ends(0, 0, 0, 0);
        r.drive(NO_CARTRIDGE, 0, 22);
    }

    private static void backUpTakesTheLongestUnused() {
        Run r = run("6 The RESIDENT file that was used longest ago", 24, 20);
        r.createFrom(2, 1);
        r.createFrom(0, 1, 1);
        r.read(2, 0, 0);
        r.backUps(0, 1, 2);
        r.write(1, 0, 1, DONE);
        r.write(0, 0, 1, DONE);
        r.backUps(1, 0);
        r.backUp(REFUSED);
    }

    private static void backUpAnswersTheLeastAndTheGreatestFile() {
        Run r = run("6 Answers the file: 15 and 0", 24, 20);
        r.create(15, 1, DONE);
        r.create(0, 1, DONE);
        r.backUps(15, 0);
        r.copyAt(15, 0, 0);
        r.copyAt(0, 0, 1);
    }

    private static void backUpMakesItDouble() {
        Run r = mixed("6 is COPIED and is DOUBLE");
        r.backUp(Scenes.RESIDENT_FILE);
        r.state(Scenes.RESIDENT_FILE, DOUBLE);
        // END 10 and two cells: just LENGTH.
        r.copyAt(Scenes.RESIDENT_FILE, 0, 10);
        r.ends(12, 0, 0, 0);
        r.live(10, 0, 0, 0);
        r.drive(0, 12, 64);
        r.usedInOrder(4, 6, 3, 5, 2, 1);
        r.taken(5);
        r.waiting(2);
    }

    private static void backUpIsNoUse() {
        Run r = run("6 is COPIED and is DOUBLE: it is not USED", 8, 20);
        r.createFrom(0, 4, 4);
        r.backUp(0);
        r.usedInOrder(0, 1);
        r.backUp(1);
        r.create(2, 4, DONE);
        r.states(STUB, DOUBLE, RESIDENT);
    }

    private static void backUpWithAllCartridgesFull() {
        CHECK.topic("6 It can't be copied: FULL, nothing changes: all cartridges full");
        Run r = Scenes.fullCartridges(CHECK);
        r.backUp(FULL);
        r.states(DOUBLE, DOUBLE, DOUBLE, DOUBLE, RESIDENT);
        r.noCopy(4);
        r.ends(4, 4, 4, 4);
        r.drive(3, 4, 96);
        r.usedInOrder(0, 1, 2, 3, 4);
    }

    private static void backUpWithAllCartridgesFullButForOneUnit() {
        Run r = run("6 It can't be copied: FULL, all cartridges full but for one unit", 24, 5);
        r.createAndBackUpFrom(0, 4, 4, 4, 4);
        r.create(4, 2, DONE);
        r.backUp(FULL);
        r.state(4, RESIDENT);
        r.drive(3, 4, 96);
        r.remove(4, DONE);
        r.create(4, 1, DONE);
        r.backUp(4);
        r.copyAt(4, 3, 4);
        r.drive(3, 5, 97);
    }

    private static void backUpDoesNotPassOverAFileThatIsTooLong() {
        Run r = run("6 It can't be copied: FULL, though a file used later could be", 24, 5);
        r.createAndBackUpFrom(0, 4, 4, 4, 4);
        r.createFrom(4, 2, 1);
        r.backUp(FULL);
        r.states(DOUBLE, DOUBLE, DOUBLE, DOUBLE, RESIDENT, RESIDENT);
        r.read(4, 0, 0);
        r.backUp(5);
        r.backUp(FULL);
    }

    private static void backUpAnswersRefusedBeforeFull() {
        CHECK.topic("6 No file is RESIDENT: REFUSED, also where nothing can be copied");
        Run r = Scenes.fullCartridges(CHECK);
        r.remove(4, DONE);
        r.backUp(REFUSED);
    }

    private static void backUpAfterACartridgeIsEmptyAgain() {
        CHECK.topic("6 a cartridge that was full is empty");
        Run r = Scenes.fullCartridges(CHECK);
        r.remove(2, DONE);
        r.backUp(FULL);
        r.empty(2, 0);
        r.backUp(4);
        r.copyAt(4, 2, 0);
        r.drive(2, 1, 96 + 20 + 1);
    }

    private static void tidyTakes0To24() {
        int[][] refused = {{-1, -1}, {-1, 0}, {0, -1}, {24, -1}, {25, 0}, {25, 24}, {25, 25}, {26, 0},
            {Integer.MAX_VALUE, 0}, {Integer.MAX_VALUE, Integer.MAX_VALUE}, {0, Integer.MIN_VALUE},
            {Integer.MIN_VALUE, Integer.MIN_VALUE}, {Integer.MAX_VALUE, Integer.MIN_VALUE}};
        Run r = fullOfDoubles("7 high and low 0 .. 24");
        for (int[] pair : refused) {
            r.tidy(pair[0], pair[1], REFUSED);
        }
        r.states(DOUBLE, DOUBLE, DOUBLE, DOUBLE, STUB, LOST);
        r.tidy(24, 24, 0);
        r.tidy(24, 0, 0);
        r.tidy(0, 0, 4);
    }

    private static void tidyTakesLowNotAboveHigh() {
        int[][] refused = {{0, 1}, {0, 24}, {7, 8}, {23, 24}, {24, 25}};
        Run r = fullOfDoubles("7 low not above high");
        for (int[] pair : refused) {
            r.tidy(pair[0], pair[1], REFUSED);
        }
        r.states(DOUBLE, DOUBLE, DOUBLE, DOUBLE, STUB, LOST);
        r.tidy(7, 7, 1);
        r.tidy(5, 4, 1);
        CHECK.topic("7 low not above high: REFUSED also where there is nothing to do");
        Run e = new Run(CHECK, 4, 4);
        e.tidy(3, 4, REFUSED);
        e.tidy(4, 4, 0);
    }

    private static void tidyWithJustHighTaken() {
        Run r = fullOfDoubles("7 If more than high units are taken: just high");
        r.tidy(8, 0, 0);
        r.tidy(8, 8, 0);
        r.states(DOUBLE, DOUBLE, DOUBLE, DOUBLE, STUB, LOST);
    }

    private static void tidyWithOneMoreThanHighTaken() {
        Run r = fullOfDoubles("7 If more than high units are taken: one more");
        r.tidy(7, 0, 4);
        r.states(STUB, STUB, STUB, STUB, STUB, LOST);
        r.taken(0);
    }

    private static void tidyEndsWithJustLowTaken() {
        Run r = fullOfDoubles("7 while more than low are: just low");
        r.tidy(7, 6, 1);
        r.states(STUB, DOUBLE, DOUBLE, DOUBLE, STUB, LOST);
        r.taken(6);
        r.tidy(5, 2, 2);
        r.states(STUB, STUB, STUB, DOUBLE, STUB, LOST);
        r.taken(2);
    }

    private static void tidyGoesOnWithOneMoreThanLowTaken() {
        Run r = fullOfDoubles("7 while more than low are: one more");
        r.tidy(7, 5, 2);
        r.states(STUB, STUB, DOUBLE, DOUBLE, STUB, LOST);
        r.taken(4);
        r.tidy(3, 1, 2);
        r.taken(0);
    }

    private static void tidyOfAnEmptyDisk() {
        Run r = run("7 an empty disk", 4, 4);
        r.tidy(0, 0, 0);
        r.tidy(24, 0, 0);
        r.createAndBackUpFrom(0, 1);
        r.tidy(0, 0, 1);
        r.tidy(0, 0, 0);
    }

    private static void tidyOfAFullDisk() {
        Run r = run("7 a full disk of 24 units", 24, 20);
        r.createAndBackUpFrom(0, 4, 4, 4, 4, 4, 4);
        r.taken(24);
        r.tidy(24, 0, 0);
        r.tidy(24, 24, 0);
        r.taken(24);
        r.tidy(23, 23, 1);
        r.taken(20);
        r.tidy(20, 0, 0);
        r.tidy(19, 0, 5);
        r.taken(0);
    }

    private static void tidyOfADiskFullButForOneUnit() {
        Run r = run("7 a disk full but for one unit of 24", 24, 20);
        r.createAndBackUpFrom(0, 4, 4, 4, 4, 4, 3);
        r.tidy(24, 0, 0);
        r.tidy(23, 0, 0);
        r.taken(23);
        r.tidy(22, 19, 1);
        r.taken(19);
    }

    private static void tidyOfAFullDiskWithNoDouble() {
        CHECK.topic("7 as long as there is one: there is none");
        Run r = Scenes.fullOfResidents(CHECK);
        r.tidy(0, 0, 0);
        r.tidy(7, 7, 0);
        r.states(RESIDENT, RESIDENT, STUB, LOST);
        r.taken(8);
    }

    private static void tidyEndsWhenThereIsNoDouble() {
        Run r = mixed("7 as long as there is one: too few");
        r.tidy(4, 0, 1);
        r.state(Scenes.DOUBLE_FILE, STUB);
        r.state(Scenes.RESIDENT_FILE, RESIDENT);
        r.taken(2);
        r.tidy(1, 0, 0);
    }

    private static void tidyOfSixteenFiles() {
        Run r = run("7 Answers how many became stubs: all sixteen", 24, 20);
        for (int file = 0; file < Run.FILES; file++) {
            r.createAndBackUpFrom(file, 1);
        }
        r.tidy(16, 0, 0);
        r.tidy(15, 0, 16);
        r.taken(0);
        r.live(16, 0, 0, 0);
    }

    private static void tidyTakesTheLongestUnused() {
        Run r = fullOfDoubles("7 the DOUBLE file that was used longest ago becomes a STUB");
        r.read(0, 0, 0);
        r.read(2, 0, 0);
        r.tidy(7, 6, 1);
        r.states(DOUBLE, STUB, DOUBLE, DOUBLE, STUB, LOST);
        r.tidy(5, 4, 1);
        r.states(DOUBLE, STUB, DOUBLE, STUB, STUB, LOST);
        r.tidy(3, 2, 1);
        r.states(STUB, STUB, DOUBLE, STUB, STUB, LOST);
    }

    private static void tidyIsNoMovementAndNoUse() {
        Run r = fullOfDoubles("7 becomes a STUB: no movement, no use, the copy stays live");
        r.tidy(0, 0, 4);
        r.drive(0, 11, 55);
        r.usedInOrder(5, 4, 0, 1, 2, 3);
        r.copyAt(0, 0, 3);
        r.copyAt(3, 0, 9);
        r.live(11, 0, 0, 0);
        r.waiting(0);
    }

    private static void askTakesFiles0To15() {
        Run r = run("8 file 0 .. 15", 8, 8);
        r.createAndBackUpFrom(0, 1);
        r.createAndBackUpFrom(15, 1);
        r.tidy(0, 0, 2);
        r.ask(-1, REFUSED);
        r.ask(16, REFUSED);
        r.ask(Integer.MIN_VALUE, REFUSED);
        r.ask(Integer.MAX_VALUE, REFUSED);
        r.waiting(0);
        r.ask(0, DONE);
        r.ask(15, DONE);
        r.waits(0, true);
        r.waits(15, true);
        r.waiting(2);
    }

    private static void askOfAFileInEachState() {
        Run r = mixed("8 The file is no STUB, or waits already: REFUSED");
        r.ask(Scenes.ABSENT_FILE, REFUSED);
        r.ask(Scenes.RESIDENT_FILE, REFUSED);
        r.ask(Scenes.DOUBLE_FILE, REFUSED);
        r.ask(Scenes.LOST_FILE, REFUSED);
        r.ask(Scenes.WAITING_STUB, REFUSED);
        r.ask(Scenes.WAITING_LOST, REFUSED);
        r.waiting(2);
        r.ask(Scenes.STUB_FILE, DONE);
        r.waiting(3);
        r.ask(Scenes.STUB_FILE, REFUSED);
        r.state(Scenes.STUB_FILE, STUB);
        r.usedInOrder(4, 6, 3, 5, 2, 1);
        r.drive(0, 10, 62);
    }

    private static void askOfTheSixthAndOfTheSeventh() {
        Run r = run("8 Six files wait: FULL", 24, 20);
        r.createAndBackUpFrom(9, 1, 1, 1, 1, 1, 1, 1);
        r.tidy(0, 0, 7);
        r.asks(9, 10, 11, 12, 13);
        r.waiting(5);
        r.ask(14, DONE);
        r.waiting(6);
        r.ask(15, FULL);
        r.waits(15, false);
        r.state(15, STUB);
        r.waiting(6);
    }

    private static void askAnswersRefusedBeforeFull() {
        Run r = sixWait("8 REFUSED before FULL");
        r.ask(0, REFUSED);
        r.ask(5, REFUSED);
        r.ask(7, REFUSED);
        r.ask(8, REFUSED);
        r.ask(9, REFUSED);
        r.ask(-1, REFUSED);
        r.ask(16, REFUSED);
        r.ask(6, FULL);
    }

    private static void askOfLostFileWhileSixWait() {
        Run r = sixWait("8 REFUSED before FULL: a LOST file");
        r.lose(0, 7);
        r.waiting(6);
        r.ask(6, REFUSED);
        r.ask(0, REFUSED);
    }

    private static void askCountsFilesThatAreNoStubsAnyMore() {
        Run r = sixWait("8 Six files wait, some of them no STUBs any more");
        r.read(0, 0, 0);
        r.write(1, 0, 1, DONE);
        r.waits(0, true);
        r.waits(1, true);
        r.waiting(6);
        r.ask(6, FULL);
        r.ask(0, REFUSED);
        r.ask(1, REFUSED);
    }

    private static void askAfterServe() {
        Run r = sixWait("8 after serve none waits");
        r.serve(6);
        r.tidy(0, 0, 7);
        r.asks(6, 0, 1, 2, 3, 4);
        r.ask(5, FULL);
        r.ask(7, FULL);
    }

    private static void serveWithNobodyWaiting() {
        Run r = run("9 nobody waits", 4, 4);
        r.serve(0);
        r.drive(NO_CARTRIDGE, 0, 0);
        r.create(0, 1, DONE);
        r.serve(0);
        r.state(0, RESIDENT);
    }

    private static void serveOfStubsThatDoNotWait() {
        Run r = mixed("9 The files that wait and are still STUBs: no other STUB");
        r.serve(1);
        r.state(Scenes.WAITING_STUB, DOUBLE);
        r.state(Scenes.STUB_FILE, STUB);
        r.state(Scenes.WAITING_LOST, LOST);
        r.waiting(0);
        r.drive(0, 5, 62 + 7 + 2);
        r.usedInOrder(4, 6, 3, 2, 1, 5);
        r.taken(7);
        r.copyAt(Scenes.WAITING_STUB, 0, 3);
        r.serve(0);
        r.drive(0, 5, 71);
    }

    private static void serveOfSix() {
        Run r = sixWait("9 six files wait");
        r.serve(6);
        r.states(DOUBLE, DOUBLE, DOUBLE, DOUBLE, DOUBLE, DOUBLE, STUB, DOUBLE, RESIDENT);
        r.drive(0, 6, 28 + 8 + 6);
        r.usedInOrder(6, 7, 8, 0, 1, 2, 3, 4, 5);
        r.waiting(0);
        for (int file = 0; file < 6; file++) {
            r.waits(file, false);
        }
        r.taken(8);
    }

    private static void serveGoesByRisingPlaces() {
        Run r = run("9 those on one cartridge by rising places", 24, 20);
        for (int file = 3; file >= 0; file--) {
            r.createAndBackUpFrom(file, 2);
        }
        r.tidy(0, 0, 4);
        r.asks(1, 3, 0, 2);
        r.serve(4);
        r.usedInOrder(3, 2, 1, 0);
        r.drive(0, 8, 28 + 8 + 8);
    }

    /** The files 0 .. 3 on the cartridges of their numbers, all of them STUBs; 3 is held. */
    private static Run oneStubOnEachCartridge(String sentence) {
        Run r = run(sentence, 24, 4);
        r.createAndBackUpFrom(0, 4, 4, 4, 4);
        r.tidy(0, 0, 4);
        r.drive(3, 4, 96);
        return r;
    }

    private static void serveBeginsWithTheHeldCartridge() {
        Run r = oneStubOnEachCartridge("9 those on the cartridge that the drive holds first");
        r.asks(0, 1, 2, 3);
        r.serve(4);
        r.usedInOrder(3, 0, 1, 2);
        r.drive(2, 4, 96 + 8 + 3 * 24);
    }

    private static void serveWorksTheOrderOutBefore() {
        Run r = oneStubOnEachCartridge("9 in this order, which is worked out before");
        r.read(2, 0, 0);
        r.tidy(0, 0, 1);
        r.asks(3, 0, 1, 2);
        r.serve(4);
        r.usedInOrder(2, 0, 1, 3);
        r.drive(3, 4, 120 + 8 + 3 * 24);
    }

    private static void serveWithNoneHeld() {
        Run r = oneStubOnEachCartridge("9 then by rising numbers of the cartridges: the drive holds none");
        r.lose(3, 1);
        r.asks(2, 1, 0);
        r.serve(3);
        r.usedInOrder(3, 0, 1, 2);
        r.drive(2, 4, 96 + 3 * 24);
    }

    private static void serveWithNothingOnTheHeldCartridge() {
        Run r = oneStubOnEachCartridge("9 nobody waits on the cartridge that the drive holds");
        r.asks(2, 0);
        r.serve(2);
        r.usedInOrder(1, 3, 0, 2);
        r.drive(2, 4, 96 + 2 * 24);
        r.states(DOUBLE, STUB, DOUBLE, STUB);
    }

    private static void serveOfFilesThatAreNoStubsAnyMore() {
        Run r = sixWait("9 and are still STUBs");
        r.read(0, 0, 0);
        r.write(1, 0, 5, DONE);
        r.drive(0, 2, 28 + 8 + 1 + 1);
        r.serve(4);
        r.states(DOUBLE, RESIDENT, DOUBLE, DOUBLE, DOUBLE, DOUBLE, STUB, DOUBLE, RESIDENT);
        r.drive(0, 6, 38 + 4);
        r.usedInOrder(6, 7, 8, 0, 1, 2, 3, 4, 5);
        r.waits(0, false);
        r.waits(1, false);
        r.waiting(0);
    }

    private static void serveOfAFileThatIsAStubAgain() {
        Run r = sixWait("9 and are still STUBs: one that came back and is a STUB again");
        r.read(0, 0, 0);
        r.tidy(0, 0, 2);
        r.state(0, STUB);
        r.ask(0, REFUSED);
        r.serve(6);
        r.state(0, DOUBLE);
        r.waiting(0);
    }

    private static void serveOfLostFiles() {
        Run r = sixWait("9 and are still STUBs: LOST ones are not");
        r.lose(0, 7);
        r.serve(0);
        r.waiting(0);
        r.states(LOST, LOST, LOST, LOST, LOST, LOST, LOST, RESIDENT, RESIDENT);
        r.drive(NO_CARTRIDGE, 0, 28);
    }

    private static void serveLeavesWhatBecomesAStubMeanwhile() {
        Run r = run("9 that wait and are still STUBs: not one that becomes a STUB meanwhile", 4, 20);
        r.createAndBackUpFrom(0, 4);
        r.createAndBackUpFrom(1, 4);
        r.ask(0, DONE);
        r.read(0, 0, 0);
        r.ask(1, DONE);
        r.states(DOUBLE, STUB);
        r.drive(0, 4, 28 + 8 + 4);
        // File 1 comes back and pushes 0 out, which waits and lay before it.
        r.serve(1);
        r.states(STUB, DOUBLE);
        r.drive(0, 8, 40 + 4);
        r.waiting(0);
    }

    private static void serveWithJustEnoughRoom() {
        Run r = run("9 ROOM IS MADE: there is just enough", 8, 20);
        r.createAndBackUpFrom(0, 4);
        r.tidy(0, 0, 1);
        r.create(1, 4, DONE);
        r.ask(0, DONE);
        r.serve(1);
        r.states(DOUBLE, RESIDENT);
        r.taken(8);
        r.drive(0, 4, 24 + 4 + 4);
    }

    private static void serveWithOneUnitTooFew() {
        Run r = run("9 One for which room can't be made stays a STUB: one unit too few", 8, 20);
        r.createAndBackUpFrom(0, 4);
        r.tidy(0, 0, 1);
        r.createFrom(1, 4, 1);
        r.ask(0, DONE);
        r.serve(0);
        r.states(STUB, RESIDENT, RESIDENT);
        r.usedInOrder(0, 1, 2);
        r.taken(5);
        r.drive(0, 4, 24);
        r.waits(0, false);
        r.waiting(0);
        r.ask(0, DONE);
    }

    private static void serveTriesTheOthersAllTheSame() {
        Run r = run("9 the others are tried all the same", 8, 20);
        r.createAndBackUpFrom(0, 4, 2, 1);
        r.tidy(0, 0, 3);
        r.createFrom(3, 4, 1);
        r.asks(0, 1, 2);
        r.drive(0, 7, 27);
        r.serve(2);
        r.states(STUB, DOUBLE, DOUBLE, RESIDENT, RESIDENT);
        r.drive(0, 7, 27 + 3 + 2 + 1);
        r.taken(8);
        r.waiting(0);
    }

    private static void serveKeepsTheStubsOfATryThatFailed() {
        Run r = run("9 room can't be made: what became a STUB stays one", 8, 20);
        r.createAndBackUpFrom(0, 4, 1);
        r.createFrom(2, 4, 1);
        r.states(STUB, DOUBLE, RESIDENT, RESIDENT);
        r.ask(0, DONE);
        r.serve(0);
        r.states(STUB, STUB, RESIDENT, RESIDENT);
        r.drive(0, 5, 25);
        r.taken(5);
    }

    private static void serveMayPushOutWhatItBroughtBack() {
        Run r = run("9 Answers how many were BROUGHT BACK: also those that are pushed out again", 4, 20);
        r.createAndBackUpFrom(0, 4, 4);
        r.tidy(0, 0, 1);
        r.states(STUB, STUB);
        r.asks(1, 0);
        r.serve(2);
        r.states(STUB, DOUBLE);
        r.drive(0, 8, 28 + 8 + 4 + 4);
        r.usedInOrder(0, 1);
        r.waiting(0);
    }

    private static void serveAfterServe() {
        Run r = oneStubOnEachCartridge("9 The files that wait: not those of the serve before");
        r.asks(0, 1);
        r.serve(2);
        r.tidy(0, 0, 2);
        r.asks(0, 3);
        r.serve(2);
        r.states(DOUBLE, STUB, STUB, DOUBLE);
        r.usedInOrder(2, 1, 0, 3);
        r.drive(3, 4, 96 + 2 * 24 + 2 * 24);
        r.serve(0);
    }

    private static void serveAfterEmpty() {
        Run r = run("9 by rising places: of the copies that empty has made", 24, 20);
        r.createAndBackUpFrom(0, 2, 2);
        r.tidy(0, 0, 2);
        r.asks(1, 0);
        r.empty(0, 2);
        r.drive(1, 4, 24 + (4 + 2) + (20 + 2) + (20 + 2 + 2) + (20 + 2 + 2));
        r.serve(2);
        r.usedInOrder(0, 1);
        r.drive(1, 4, 100 + 4 + 2 + 2);
        r.states(DOUBLE, DOUBLE);
    }
}
