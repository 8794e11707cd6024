/** The boundary cases that the sentences of "Terms" name, a test for each. */
public final class TermsEdgeTest {
    private static final int DONE = Run.DONE;
    private static final int REFUSED = Run.REFUSED;
    private static final int FULL = Run.FULL;
    private static final int GONE = Run.GONE;
    private static final int ABSENT = Run.ABSENT;
    private static final int RESIDENT = Run.RESIDENT;
    private static final int DOUBLE = Run.DOUBLE;
    private static final int STUB = Run.STUB;
    private static final int LOST = Run.LOST;
    private static final int NO_CARTRIDGE = Run.NO_CARTRIDGE;

    private static final Check CHECK = new Check();

    public static void main(String[] args) {
        filesAreAbsentAtFirst();
        cellsHoldEveryInt();
        lengthsAreTakenOnTheDisk();
        createdFilesCountAsUsed();
        aUsedFileIsTheLastOne();
        otherCallsAreNoUse();
        endsAreZeroAtFirst();
        aCopyStartsAtTheEnd();
        onlyTheLastCopyIsLive();
        aCopyOfARemovedFileStaysDead();
        theDriveHoldsNoneAtFirst();
        loadingCostsTwenty();
        goingNowhereCostsNothing();
        goingForwardAndBackCostsTheDistance();
        loadingPutsTheHeadAtZero();
        aFileOnTheDiskCostsNothing();
        aCopyMayFillTheCartridge();
        aCopyOfOneUnitTooManyGoesElsewhere();
        theHeldCartridgeIsLookedAtFirst();
        theOthersAreLookedAtByRisingNumber();
        withNoneHeldTheLeastNumberIsFirst();
        theLastUnitOfAllCartridgesIsUsed();
        roomThatIsThereIsNotMade();
        roomOfOneUnitTooFewIsMade();
        roomIsMadeOneByOne();
        roomIsMadeOfTheLongestUnused();
        roomIsNotMadeOfResidents();
        roomThatCannotBeMadeLeavesStubs();
        aStubThatComesBackIsDoubleAndUsed();
        aStubWithoutRoomStaysAndCostsNothing();
        longAnswersHaveTheirOwnNames();
        the512thCallStillHolds();
        CHECK.end();
    }

    private static Run run(String sentence, int room, int length) {
        CHECK.topic(sentence);
        return new Run(CHECK, room, length);
    }

    private static void filesAreAbsentAtFirst() {
        Run r = run("FILES 0 .. 15 are absent (at first)", 24, 20);
        for (int file = 0; file < Run.FILES; file++) {
            r.state(file, ABSENT);
            r.file(file, 1, 0);
        }
        r.taken(0);
    }

    private static void cellsHoldEveryInt() {
        Run r = run("a length of 1 .. 4 cells, each an int", 4, 4);
        r.create(0, 4, DONE);
        int[] values = {Integer.MIN_VALUE, Integer.MAX_VALUE, -1, 65536};
        for (int i = 0; i < 4; i++) {
            r.write(0, i, values[i], DONE);
        }
        for (int i = 0; i < 4; i++) {
            r.read(0, i, values[i]);
        }
        r.backUp(0);
        r.tidy(0, 0, 1);
        for (int i = 0; i < 4; i++) {
            r.read(0, i, values[i]);
        }
    }

    private static void lengthsAreTakenOnTheDisk() {
        for (int length = 1; length <= 4; length++) {
            Run r = run("A RESIDENT or DOUBLE file takes its length, the others take none", 12, 12);
            r.create(9, length, DONE);
            r.state(9, RESIDENT);
            r.taken(length);
            r.backUp(9);
            r.state(9, DOUBLE);
            r.taken(length);
            r.tidy(0, 0, 1);
            r.state(9, STUB);
            r.taken(0);
            r.lose(0, 1);
            r.state(9, LOST);
            r.taken(0);
            r.remove(9, DONE);
            r.taken(0);
        }
    }

    private static void createdFilesCountAsUsed() {
        Run r = run("Files that were not used since they were created count as used when created", 24, 20);
        r.createFrom(3, 1);
        r.createFrom(1, 1);
        r.createFrom(2, 1);
        r.usedInOrder(3, 1, 2);
        r.backUps(3, 1, 2);
        r.usedInOrder(3, 1, 2);
    }

    private static void aUsedFileIsTheLastOne() {
        Run r = run("To USE a file: it becomes the last used one", 24, 20);
        r.createFrom(1, 1, 1, 1);
        r.read(1, 0, 0);
        r.usedInOrder(2, 3, 1);
        r.read(3, 0, 0);
        r.usedInOrder(2, 1, 3);
        r.write(2, 0, 1, DONE);
        r.usedInOrder(1, 3, 2);
        r.read(2, 0, 1);
        r.usedInOrder(1, 3, 2);
    }

    private static void otherCallsAreNoUse() {
        Run r = run("only create, write, read and bringing back USE a file", 24, 20);
        r.createFrom(0, 1, 1, 1);
        r.backUp(0);
        r.usedInOrder(0, 1, 2);
        r.backUps(1, 2);
        r.tidy(2, 2, 1);
        r.usedInOrder(0, 1, 2);
        r.tidy(0, 0, 2);
        r.usedInOrder(0, 1, 2);
        r.ask(0, DONE);
        r.usedInOrder(0, 1, 2);
        r.empty(0, 3);
        r.usedInOrder(0, 1, 2);
        r.lose(1, 3);
        r.usedInOrder(0, 1, 2);
        r.serve(0);
        r.usedInOrder(0, 1, 2);
        r.remove(1, DONE);
        r.usedInOrder(0, 2);
    }

    private static void endsAreZeroAtFirst() {
        for (int length : new int[] {4, 20}) {
            Run r = run("CARTRIDGES have an END (0 at first)", 4, length);
            r.ends(0, 0, 0, 0);
            r.live(0, 0, 0, 0);
        }
    }

    private static void aCopyStartsAtTheEnd() {
        for (int length = 1; length <= 4; length++) {
            Run r = run("A copy is put at the END, and the END rises by n", 4, 20);
            r.create(0, length, DONE);
            r.backUp(0);
            r.copyAt(0, 0, 0);
            r.ends(length, 0, 0, 0);
            r.write(0, 0, 1, DONE);
            r.backUp(0);
            r.copyAt(0, 0, length);
            r.ends(2 * length, 0, 0, 0);
        }
    }

    private static void onlyTheLastCopyIsLive() {
        Run r = run("A copy is live while its file is DOUBLE or STUB and it was the last one made", 8, 20);
        r.create(0, 3, DONE);
        r.live(0, 0, 0, 0);
        r.noCopy(0);
        r.backUp(0);
        r.live(3, 0, 0, 0);
        r.write(0, 0, 5, DONE);
        r.live(0, 0, 0, 0);
        r.ends(3, 0, 0, 0);
        r.noCopy(0);
        r.backUp(0);
        r.live(3, 0, 0, 0);
        r.ends(6, 0, 0, 0);
        r.copyAt(0, 0, 3);
        r.tidy(0, 0, 1);
        r.live(3, 0, 0, 0);
        r.copyAt(0, 0, 3);
        r.read(0, 0, 5);
        r.copyAt(0, 0, 3);
        r.live(3, 0, 0, 0);
    }

    private static void aCopyOfARemovedFileStaysDead() {
        Run r = run("the units of other copies stay dead", 8, 20);
        r.createAndBackUpFrom(0, 2);
        r.remove(0, DONE);
        r.live(0, 0, 0, 0);
        r.ends(2, 0, 0, 0);
        r.create(0, 2, DONE);
        r.live(0, 0, 0, 0);
        r.noCopy(0);
        r.backUp(0);
        r.copyAt(0, 0, 2);
        r.live(2, 0, 0, 0);
    }

    private static void theDriveHoldsNoneAtFirst() {
        Run r = run("There is a drive that holds a cartridge or none (at first)", 24, 20);
        r.drive(NO_CARTRIDGE, 0, 0);
        r.create(0, 4, DONE);
        r.drive(NO_CARTRIDGE, 0, 0);
    }

    private static void loadingCostsTwenty() {
        Run r = run("if the drive does not hold c, the cost is 20, the drive holds c", 24, 20);
        r.createAndBackUpFrom(0, 1);
        r.drive(0, 1, 20 + 1);
    }

    private static void goingNowhereCostsNothing() {
        Run r = run("the cost is the distance of the head and p: none", 24, 20);
        r.createAndBackUpFrom(0, 1);
        r.createAndBackUpFrom(1, 4);
        r.drive(0, 5, 21 + 4);
    }

    private static void goingForwardAndBackCostsTheDistance() {
        Run r = run("the cost is the distance of the head and p: back and forward", 24, 20);
        r.createAndBackUpFrom(0, 2, 3, 4, 1);
        r.drive(0, 10, 30);
        r.tidy(0, 0, 4);
        r.read(1, 0, 0);
        r.drive(0, 5, 30 + 8 + 3);
        r.read(3, 0, 0);
        r.drive(0, 10, 41 + 4 + 1);
        r.read(0, 0, 0);
        r.drive(0, 2, 46 + 10 + 2);
        r.read(2, 0, 0);
        r.drive(0, 9, 58 + 3 + 4);
    }

    private static void loadingPutsTheHeadAtZero() {
        Run r = run("the drive holds c, and its head is at 0", 24, 8);
        r.createAndBackUpFrom(0, 4, 4, 4);
        r.drive(1, 4, 20 + 8 + 20 + 4);
        r.tidy(0, 0, 3);
        r.read(1, 0, 0);
        // The head was at 4, where the copy lies, but on the other cartridge.
        r.drive(0, 8, 52 + 20 + 4 + 4);
        r.read(2, 0, 0);
        r.drive(1, 4, 80 + 20 + 4);
    }

    private static void aFileOnTheDiskCostsNothing() {
        Run r = Scenes.mixed(CHECK);
        CHECK.topic("only what is put or brought back costs");
        r.read(Scenes.RESIDENT_FILE, 0, 10);
        r.read(Scenes.DOUBLE_FILE, 2, 22);
        r.write(Scenes.DOUBLE_FILE, 0, 1, DONE);
        r.drive(0, 10, 62);
    }

    private static void aCopyMayFillTheCartridge() {
        Run r = run("whose END plus the file's length is not above LENGTH: just LENGTH", 24, 5);
        r.createAndBackUpFrom(0, 4, 1);
        r.copyAt(1, 0, 4);
        r.ends(5, 0, 0, 0);
        r.createAndBackUpFrom(2, 1);
        r.copyAt(2, 1, 0);
        r.ends(5, 1, 0, 0);
    }

    private static void aCopyOfOneUnitTooManyGoesElsewhere() {
        Run r = run("whose END plus the file's length is not above LENGTH: one above", 24, 5);
        r.createAndBackUpFrom(0, 4, 2);
        r.copyAt(1, 1, 0);
        r.ends(4, 2, 0, 0);
    }

    private static void theHeldCartridgeIsLookedAtFirst() {
        Run r = run("the one that the drive holds, then the others", 24, 5);
        r.createAndBackUpFrom(0, 4, 2);
        r.createAndBackUpFrom(2, 1);
        r.copyAt(2, 1, 2);
        r.drive(1, 3, 24 + 22 + 1);
        r.createAndBackUpFrom(3, 3, 3);
        r.copyAt(3, 2, 0);
        r.copyAt(4, 3, 0);
        r.createAndBackUpFrom(5, 2);
        r.copyAt(5, 3, 3);
    }

    private static void theOthersAreLookedAtByRisingNumber() {
        Run r = run("then the others by rising number", 24, 4);
        r.createAndBackUpFrom(0, 3, 4);
        r.createAndBackUpFrom(2, 1);
        r.copyAt(2, 0, 3);
        r.createAndBackUpFrom(3, 1);
        // The drive holds 0, which is full as 1 is.
        r.copyAt(3, 2, 0);
        r.createAndBackUpFrom(4, 4);
        r.copyAt(4, 3, 0);
        r.createAndBackUpFrom(5, 3);
        r.copyAt(5, 2, 1);
        r.ends(4, 4, 4, 4);
    }

    private static void withNoneHeldTheLeastNumberIsFirst() {
        Run r = run("the drive holds none: the cartridges by rising number", 24, 4);
        r.createAndBackUpFrom(0, 4, 2, 4);
        r.drive(2, 4, 70);
        r.lose(2, 0);
        r.drive(NO_CARTRIDGE, 0, 70);
        r.backUp(2);
        r.copyAt(2, 2, 0);
        r.lose(2, 0);
        r.create(3, 2, DONE);
        r.read(2, 0, 0);
        r.backUp(3);
        r.copyAt(3, 1, 2);
    }

    private static void theLastUnitOfAllCartridgesIsUsed() {
        Run r = run("If there is none, it can't be copied", 24, 5);
        r.createAndBackUpFrom(0, 4, 4, 4, 4);
        r.create(4, 2, DONE);
        r.backUp(FULL);
        r.remove(4, DONE);
        r.createAndBackUpFrom(5, 1, 1, 1, 1);
        r.copyAt(5, 3, 4);
        r.copyAt(6, 0, 4);
        r.copyAt(7, 1, 4);
        r.copyAt(8, 2, 4);
        r.ends(5, 5, 5, 5);
        r.create(9, 1, DONE);
        r.backUp(FULL);
        r.state(9, RESIDENT);
    }

    private static void roomThatIsThereIsNotMade() {
        Run r = run("while fewer than n units are not taken: just n are not", 8, 20);
        r.createAndBackUpFrom(0, 4);
        r.create(1, 4, DONE);
        r.states(DOUBLE, RESIDENT);
        r.taken(8);
    }

    private static void roomOfOneUnitTooFewIsMade() {
        Run r = run("while fewer than n units are not taken: one too few", 8, 20);
        r.createAndBackUpFrom(0, 4, 1);
        r.create(2, 4, DONE);
        r.states(STUB, DOUBLE, RESIDENT);
        r.taken(5);
    }

    private static void roomIsMadeOneByOne() {
        Run r = run("while fewer than n units are not taken: it ends as soon as n are", 8, 20);
        r.createAndBackUpFrom(0, 2, 2, 2, 2);
        r.create(4, 3, DONE);
        r.states(STUB, STUB, DOUBLE, DOUBLE, RESIDENT);
        r.taken(7);
        r.create(5, 1, DONE);
        r.states(STUB, STUB, DOUBLE, DOUBLE, RESIDENT, RESIDENT);
        r.taken(8);
    }

    private static void roomIsMadeOfTheLongestUnused() {
        Run r = run("the DOUBLE file that was used longest ago becomes a STUB", 6, 20);
        r.createAndBackUpFrom(0, 2, 2, 2);
        r.read(0, 0, 0);
        r.create(3, 1, DONE);
        r.states(DOUBLE, STUB, DOUBLE, RESIDENT);
        r.read(2, 0, 0);
        r.create(4, 2, DONE);
        r.states(STUB, STUB, DOUBLE, RESIDENT, RESIDENT);
    }

    private static void roomIsNotMadeOfResidents() {
        Run r = run("the DOUBLE file becomes a STUB, not a RESIDENT one used before it", 8, 20);
        r.createFrom(0, 4, 4);
        r.backUps(0, 1);
        r.write(0, 0, 1, DONE);
        r.read(1, 0, 0);
        r.create(2, 4, DONE);
        r.states(RESIDENT, STUB, RESIDENT);
    }

    private static void roomThatCannotBeMadeLeavesStubs() {
        Run r = run("if there is no DOUBLE file, room can't be made (what became a STUB stays one)", 8, 20);
        r.createAndBackUpFrom(0, 1, 1);
        r.createFrom(2, 4, 1);
        r.create(4, 4, FULL);
        r.states(STUB, STUB, RESIDENT, RESIDENT, ABSENT);
        r.taken(5);
        r.cost(22);
        r.create(4, 4, FULL);
        r.create(4, 3, DONE);
        r.taken(8);
    }

    private static void aStubThatComesBackIsDoubleAndUsed() {
        Run r = run("else the copy is brought back, it is DOUBLE, and it is USED", 8, 20);
        r.createAndBackUpFrom(0, 4, 4);
        r.tidy(7, 4, 1);
        r.states(STUB, DOUBLE);
        r.read(0, 3, 0);
        r.states(DOUBLE, DOUBLE);
        r.usedInOrder(1, 0);
        r.copyAt(0, 0, 0);
        r.drive(0, 4, 28 + 8 + 4);
        r.taken(8);
    }

    private static void aStubWithoutRoomStaysAndCostsNothing() {
        Run r = run("if that can't be, it stays a STUB, and there is no cost", 8, 20);
        r.createAndBackUpFrom(0, 4, 1);
        r.createFrom(2, 4);
        r.createFrom(3, 1);
        // Seven units are taken, one of them by a DOUBLE file: two too few for file 0.
        r.states(STUB, DOUBLE, RESIDENT, RESIDENT);
        r.drive(0, 5, 25);
        r.read(0, 0, Run.NO_ROOM);
        r.states(STUB, STUB, RESIDENT, RESIDENT);
        r.drive(0, 5, 25);
        r.usedInOrder(0, 1, 2, 3);
        r.copyAt(0, 0, 0);
        r.taken(5);
    }

    private static void longAnswersHaveTheirOwnNames() {
        Run r = Scenes.fullOfResidents(CHECK);
        CHECK.topic("NO_ROOM: As FULL. NO_FILE: As GONE, where the answer is a long");
        CHECK.due("NONE", TierStore.NONE, -1000000000000L);
        CHECK.due("NO_ROOM", TierStore.NO_ROOM, -2000000000000L);
        CHECK.due("NO_FILE", TierStore.NO_FILE, -3000000000000L);
        r.write(2, 0, 1, FULL);
        r.read(2, 0, -2000000000000L);
        r.write(3, 0, 1, GONE);
        r.read(3, 0, -3000000000000L);
        r.write(9, 0, 1, REFUSED);
        r.read(9, 0, -1000000000000L);
    }

    private static void the512thCallStillHolds() {
        Run r = run("An object is used for at most 512 calls", 4, 4);
        r.createAndBackUpFrom(0, 4, 4);
        // Each read of the one stub pushes the other out and changes cartridges: 20 + 4.
        int cost = 48;
        for (int turn = 0; r.calls() < 511; turn++) {
            r.read(turn % 2, 0, 0);
            cost += 24;
        }
        r.cost(cost);
        CHECK.due("calls of the run", r.calls(), 512);
    }
}
