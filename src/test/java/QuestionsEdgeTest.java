/** The boundary cases that promises 12 to 14 name: file, cartridge and count. */
public final class QuestionsEdgeTest {
    private static final int DONE = Run.DONE;
    private static final int REFUSED = Run.REFUSED;
    private static final int ABSENT = Run.ABSENT;
    private static final int RESIDENT = Run.RESIDENT;
    private static final int DOUBLE = Run.DOUBLE;
    private static final int STUB = Run.STUB;
    private static final int LOST = Run.LOST;
    private static final int NO_CARTRIDGE = Run.NO_CARTRIDGE;
    private static final int[] BAD_FILES = {-1, 16, 17, Integer.MIN_VALUE, Integer.MAX_VALUE};
    private static final int[] BAD_CARTRIDGES = {-1, 4, 5, Integer.MIN_VALUE, Integer.MAX_VALUE};

    private static final Check CHECK = new Check();

    public static void main(String[] args) {
        fileTakesFiles0To15();
        fileTakesWhats0To5();
        fileInEachState();
        fileAtItsGreatestAnswers();
        fileWaitsWhateverItsState();
        fileUsedSinceLeavesOutAbsentFiles();
        fileUsedSinceCountsLostFiles();

        cartridgeTakesCartridges0To3();
        cartridgeTakesWhats0To2();
        cartridgeInEachPlace();
        cartridgeFullAndFullButForOneUnit();
        cartridgeLiveUnitsAreDoublesAndStubs();

        countTakesWhats0To3();
        countOfUnitsFromEmptyToFull();
        countOfTheCost();
        countOfTheHead();
        countOfTheWaiting();
        CHECK.end();
    }

    private static Run run(String sentence, int room, int length) {
        CHECK.topic(sentence);
        return new Run(CHECK, room, length);
    }

    private static Run mixed(String sentence) {
        CHECK.topic(sentence);
        return Scenes.mixed(CHECK);
    }

    private static void fileTakesFiles0To15() {
        Run r = mixed("12 a file 0 .. 15");
        for (int bad : BAD_FILES) {
            for (int what = -1; what <= 6; what++) {
                r.file(bad, what, REFUSED);
            }
        }
        r.create(0, 1, DONE);
        r.create(15, 2, DONE);
        r.file(0, 1, 1);
        r.file(15, 1, 2);
    }

    private static void fileTakesWhats0To5() {
        Run r = mixed("12 Another what: REFUSED");
        for (int file = 0; file <= 6; file++) {
            for (int bad : new int[] {-1, 6, 7, Integer.MIN_VALUE, Integer.MAX_VALUE}) {
                r.file(file, bad, REFUSED);
            }
        }
    }

    private static void fileInEachState() {
        Run r = mixed("12 0 its state; 1 its length; 2, 3 its copy; 4 if it waits; 5 used since");
        int[][] wanted = {
            {ABSENT, 0, REFUSED, REFUSED, 0, REFUSED},
            {RESIDENT, 2, REFUSED, REFUSED, 0, 0},
            {DOUBLE, 3, 0, 7, 0, 1},
            {STUB, 3, 0, 0, 0, 3},
            {LOST, 4, REFUSED, REFUSED, 0, 5},
            {STUB, 2, 0, 3, 1, 2},
            {LOST, 4, REFUSED, REFUSED, 1, 4},
            {ABSENT, 0, REFUSED, REFUSED, 0, REFUSED},
        };
        for (int file = 0; file < wanted.length; file++) {
            for (int what = 0; what < 6; what++) {
                r.file(file, what, wanted[file][what]);
            }
        }
        for (int what = 0; what < 6; what++) {
            r.file(15, what, wanted[0][what]);
        }
    }

    private static void fileAtItsGreatestAnswers() {
        Run r = run("12 the greatest answers", 24, 20);
        for (int file = 0; file < Run.FILES; file++) {
            r.create(file, 1, DONE);
        }
        for (int file = 0; file < Run.FILES; file++) {
            r.file(file, 5, 15 - file);
        }
        Run s = run("12 3 the first place: the last unit of the last cartridge", 4, 20);
        s.create(15, 1, DONE);
        for (int copies = 0; copies < 80; copies++) {
            s.backUp(15);
            s.write(15, 0, copies, DONE);
        }
        s.backUp(Run.FULL);
        s.noCopy(15);
        s.ends(20, 20, 20, 20);
        s.empty(3, 0);
        for (int copies = 0; copies < 19; copies++) {
            s.backUp(15);
            s.write(15, 0, copies, DONE);
        }
        s.backUp(15);
        s.copyAt(15, 3, 19);
    }

    private static void fileWaitsWhateverItsState() {
        Run r = mixed("12 4: 1 if it waits, else 0: also when it is no STUB any more");
        r.read(Scenes.WAITING_STUB, 1, 51);
        r.state(Scenes.WAITING_STUB, DOUBLE);
        r.waits(Scenes.WAITING_STUB, true);
        r.write(Scenes.WAITING_STUB, 0, 1, DONE);
        r.state(Scenes.WAITING_STUB, RESIDENT);
        r.waits(Scenes.WAITING_STUB, true);
        r.waits(Scenes.WAITING_LOST, true);
        r.serve(0);
        r.waits(Scenes.WAITING_STUB, false);
        r.waits(Scenes.WAITING_LOST, false);
    }

    private static void fileUsedSinceLeavesOutAbsentFiles() {
        Run r = run("12 5: how many files that are not absent were used since it was", 24, 20);
        r.createFrom(0, 1, 1, 1);
        r.file(0, 5, 2);
        r.remove(2, DONE);
        r.file(0, 5, 1);
        r.file(2, 5, REFUSED);
        r.remove(1, DONE);
        r.file(0, 5, 0);
        r.create(2, 1, DONE);
        r.file(0, 5, 1);
        r.file(2, 5, 0);
    }

    private static void fileUsedSinceCountsLostFiles() {
        Run r = run("12 5: a STUB and a LOST file are not absent", 24, 20);
        r.createAndBackUpFrom(0, 1, 1);
        r.tidy(0, 0, 2);
        r.file(0, 5, 1);
        r.lose(0, 2);
        r.file(0, 5, 1);
        r.file(1, 5, 0);
        r.create(2, 1, DONE);
        r.file(0, 5, 2);
        r.file(1, 5, 1);
    }

    private static void cartridgeTakesCartridges0To3() {
        Run r = mixed("13 a cartridge 0 .. 3");
        for (int bad : BAD_CARTRIDGES) {
            for (int what = -1; what <= 3; what++) {
                r.cartridge(bad, what, REFUSED);
            }
        }
        r.cartridge(0, 0, 10);
        r.cartridge(3, 0, 0);
    }

    private static void cartridgeTakesWhats0To2() {
        Run r = mixed("13 Another what: REFUSED");
        for (int cartridge = 0; cartridge < Run.CARTRIDGES; cartridge++) {
            for (int bad : new int[] {-1, 3, 4, Integer.MIN_VALUE, Integer.MAX_VALUE}) {
                r.cartridge(cartridge, bad, REFUSED);
            }
        }
    }

    private static void cartridgeInEachPlace() {
        Run r = mixed("13 0 its END; 1 the units of its live copies; 2: 1 if the drive holds it");
        r.ends(10, 0, 0, 0);
        r.live(8, 0, 0, 0);
        r.cartridge(0, 2, 1);
        for (int cartridge = 1; cartridge < Run.CARTRIDGES; cartridge++) {
            r.cartridge(cartridge, 2, 0);
        }
        Run s = run("13 2: each cartridge in turn", 24, 4);
        for (int file = 0; file < Run.CARTRIDGES; file++) {
            s.createAndBackUpFrom(file, 4);
            s.drive(file, 4, 24 * (file + 1));
        }
    }

    private static void cartridgeFullAndFullButForOneUnit() {
        Run r = run("13 0 its END, from 0 to LENGTH", 24, 20);
        r.createAndBackUpFrom(0, 4, 4, 4, 4, 3);
        r.ends(19, 0, 0, 0);
        r.live(19, 0, 0, 0);
        r.createAndBackUpFrom(5, 1);
        r.ends(20, 0, 0, 0);
        r.live(20, 0, 0, 0);
    }

    private static void cartridgeLiveUnitsAreDoublesAndStubs() {
        Run r = mixed("13 1 the units of its live copies: each state");
        r.write(Scenes.DOUBLE_FILE, 0, 1, DONE);
        r.live(5, 0, 0, 0);
        r.remove(Scenes.STUB_FILE, DONE);
        r.live(2, 0, 0, 0);
        r.read(Scenes.WAITING_STUB, 0, 0);
        r.live(2, 0, 0, 0);
        r.write(Scenes.WAITING_STUB, 0, 1, DONE);
        r.live(0, 0, 0, 0);
        r.ends(10, 0, 0, 0);
    }

    private static void countTakesWhats0To3() {
        Run r = mixed("14 Another what: REFUSED");
        for (int bad : new int[] {-1, 4, 5, Integer.MIN_VALUE, Integer.MAX_VALUE}) {
            r.count(bad, REFUSED);
        }
        r.count(0, 5);
        r.count(1, 62);
        r.count(2, 10);
        r.count(3, 2);
    }

    private static void countOfUnitsFromEmptyToFull() {
        Run r = run("14 0 units of the disk that are taken: from none to all", 24, 20);
        r.count(0, 0);
        for (int file = 0; file < 5; file++) {
            r.create(file, 4, DONE);
            r.count(0, 4 * (file + 1));
        }
        r.create(5, 3, DONE);
        r.count(0, 23);
        r.create(6, 1, DONE);
        r.count(0, 24);
        r.backUp(0);
        r.count(0, 24);
        r.create(7, 1, DONE);
        r.count(0, 21);
    }

    private static void countOfTheCost() {
        Run r = run("14 1 the cost of all movements so far: lost cartridges do not lower it", 4, 4);
        r.count(1, 0);
        r.createAndBackUpFrom(0, 4);
        r.count(1, 24);
        r.lose(0, 0);
        r.count(1, 24);
        r.backUp(0);
        r.count(1, 48);
        r.empty(0, 1);
        r.count(1, 48 + 8 + 24);
        r.remove(0, DONE);
        r.count(1, 80);
    }

    private static void countOfTheHead() {
        Run r = run("14 2 the place of the head, 0 if the drive holds none", 24, 20);
        r.count(2, 0);
        r.createAndBackUpFrom(0, 4, 4, 4, 4, 3, 1);
        r.drive(0, 20, 40);
        r.tidy(0, 0, 6);
        r.read(4, 0, 0);
        r.drive(0, 19, 40 + 4 + 3);
        r.read(0, 0, 0);
        r.drive(0, 4, 47 + 19 + 4);
        r.lose(0, 4);
        r.drive(NO_CARTRIDGE, 0, 70);
        r.serve(0);
        r.count(2, 0);
    }

    private static void countOfTheWaiting() {
        CHECK.topic("14 3 how many files wait: from none to six");
        Run r = Scenes.sixWait(CHECK);
        r.count(3, 6);
        r.remove(0, DONE);
        r.count(3, 5);
        r.ask(6, DONE);
        r.count(3, 6);
        r.serve(6);
        r.count(3, 0);
    }
}
