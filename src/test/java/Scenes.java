/** Stores that stand at an edge, each built by calls whose answers are due as well. */
final class Scenes {
    /** The files of mixed, named by what they are there. */
    static final int ABSENT_FILE = 0;
    static final int RESIDENT_FILE = 1;
    static final int DOUBLE_FILE = 2;
    static final int STUB_FILE = 3;
    static final int LOST_FILE = 4;
    static final int WAITING_STUB = 5;
    static final int WAITING_LOST = 6;

    private Scenes() {
    }

    static Run fresh(Check check) {
        return new Run(check, 12, 10);
    }

    /**
     * A file in each state, one STUB and one LOST file that wait, and dead units.
     *
     * <p>ROOM 12 with 5 taken; cartridge 0 has END 10 of LENGTH 12, 8 of it live: file 3 at 0 .. 2, 5 at
     * 3 .. 4, dead units at 5 .. 6, 2 at 7 .. 9; the drive holds it with the head at 10, cost 62.
     */
    static Run mixed(Check check) {
        Run r = new Run(check, 12, 12);
        r.createFrom(LOST_FILE, 4);
        r.createFrom(WAITING_LOST, 4);
        r.createFrom(7, 4);
        r.backUps(LOST_FILE, WAITING_LOST, 7);
        r.tidy(0, 0, 3);
        r.ask(WAITING_LOST, Run.DONE);
        r.lose(0, 3);
        r.remove(7, Run.DONE);
        r.createFrom(STUB_FILE, 3);
        r.createFrom(WAITING_STUB, 2);
        r.createFrom(RESIDENT_FILE, 2);
        r.createFrom(DOUBLE_FILE, 3);
        r.write(STUB_FILE, 0, 30, Run.DONE);
        r.write(STUB_FILE, 2, 32, Run.DONE);
        r.write(WAITING_STUB, 1, 51, Run.DONE);
        r.write(RESIDENT_FILE, 0, 10, Run.DONE);
        r.write(DOUBLE_FILE, 2, 22, Run.DONE);
        r.backUps(STUB_FILE, WAITING_STUB, RESIDENT_FILE, DOUBLE_FILE);
        r.tidy(9, 5, 2);
        r.write(RESIDENT_FILE, 1, 11, Run.DONE);
        r.ask(WAITING_STUB, Run.DONE);
        return r;
    }

    /** ROOM 8, all of it taken by the RESIDENT files 0 and 1; file 2 is a STUB, 3 is LOST. */
    static Run fullOfResidents(Check check) {
        Run r = new Run(check, 8, 8);
        r.createAndBackUpFrom(3, 4);
        r.tidy(0, 0, 1);
        r.lose(0, 1);
        r.createAndBackUpFrom(2, 1);
        r.createFrom(0, 4, 4);
        return r;
    }

    /** ROOM 8, all of it taken by the DOUBLE files 0 .. 3; file 4 is a STUB, 5 is LOST. */
    static Run fullOfDoubles(Check check) {
        Run r = new Run(check, 8, 16);
        r.createAndBackUpFrom(5, 4);
        r.tidy(0, 0, 1);
        r.lose(0, 1);
        r.createAndBackUpFrom(4, 3);
        r.createAndBackUpFrom(0, 2, 2, 2, 2);
        return r;
    }

    /** Six files that wait, the STUBs 0 .. 5; a STUB, a DOUBLE and a RESIDENT that do not: 6, 7, 8. */
    static Run sixWait(Check check) {
        Run r = new Run(check, 24, 20);
        r.createAndBackUpFrom(0, 1, 1, 1, 1, 1, 1, 1);
        r.tidy(0, 0, 7);
        r.createAndBackUpFrom(7, 1);
        r.createFrom(8, 1);
        r.asks(0, 1, 2, 3, 4, 5);
        return r;
    }

    /** Every cartridge of LENGTH 4 is full: the DOUBLE files 0 .. 3; file 4 of one cell is RESIDENT. */
    static Run fullCartridges(Check check) {
        Run r = new Run(check, 20, 4);
        r.createAndBackUpFrom(0, 4, 4, 4, 4);
        r.createFrom(4, 1);
        return r;
    }
}
