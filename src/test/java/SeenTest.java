import java.util.function.Consumer;

/**
 * What each call changes is seen afterwards through all the others: after each run the whole Picture, that
 * is every answer of file, cartridge, count and read, is compared with one worked out by hand.
 */
public final class SeenTest {
    private static final int DONE = Run.DONE;
    private static final int FULL = Run.FULL;
    private static final int GONE = Run.GONE;
    private static final int NO_CARTRIDGE = Run.NO_CARTRIDGE;

    private static final Check CHECK = new Check();

    private record Opening(int room, int length, Consumer<Run> calls) {
        Opening then(Consumer<Run> more) {
            return new Opening(room, length, calls.andThen(more));
        }
    }

    public static void main(String[] args) {
        afterTheOpenings();
        afterCreate();
        afterCreateThatMakesRoom();
        afterCreateAnew();
        afterWriteOnTheDisk();
        afterWriteOfAStub();
        afterWriteThatFails();
        afterReadOnTheDisk();
        afterReadOfAStub();
        afterReadThatFails();
        afterRemove();
        afterBackUpOntoTheHeldCartridge();
        afterBackUpOntoAnotherCartridge();
        afterBackUpPastACartridgeWithRoom();
        afterBackUpThatFails();
        afterTidy();
        afterAsk();
        afterServeInItsOrder();
        afterServeOfSome();
        afterServeWithoutRoom();
        afterServeOfWhatIsNoStub();
        afterEmptyOfFullCartridges();
        afterEmptyOfOneAfterTheOther();
        afterEmptyOntoTwoCartridges();
        afterEmptyOfDeadCopies();
        afterEmptyThatFails();
        afterLose();
        CHECK.end();
    }

    private static void seen(String topic, Opening run, Picture picture) {
        CHECK.topic(topic);
        picture.isSeenAfter(CHECK, run.room(), run.length(), run.calls());
    }

    private static Opening fresh(int room, int length) {
        return new Opening(room, length, r -> { });
    }

    /** The disk of 8 is full of the DOUBLE files 0, 1 and 2, all copied onto cartridge 0. */
    private static Opening threeDoubles() {
        return fresh(8, 10).then(r -> {
            r.createFrom(0, 2, 3, 3);
            r.write(0, 0, 1, DONE);
            r.write(0, 1, 2, DONE);
            r.write(1, 2, 13, DONE);
            r.write(2, 0, 20, DONE);
            r.backUps(0, 1, 2);
        });
    }

    /** DOUBLE files: 0 and 1 fill cartridge 0; 2 and 3 fill cartridge 1, which the drive holds. */
    private static Opening twoCartridges() {
        return fresh(12, 5).then(r -> {
            r.createFrom(0, 3, 2, 4, 1);
            r.write(0, 2, 3, DONE);
            r.write(1, 0, -10, DONE);
            r.write(2, 3, 23, DONE);
            r.write(3, 0, 30, DONE);
            r.backUps(0, 1, 2, 3);
        });
    }

    /** As twoCartridges, but file 0 is a STUB that waits. */
    private static Opening oneWaits() {
        return twoCartridges().then(r -> {
            r.tidy(9, 7, 1);
            r.ask(0, DONE);
        });
    }

    /** As oneWaits, but cartridge 0 was lost: file 0 is LOST and waits, 1 is RESIDENT. */
    private static Opening oneIsLost() {
        return oneWaits().then(r -> r.lose(0, 1));
    }

    /** The disk of 8 is full: file 0 is a STUB of 4 cells, 1 a DOUBLE of one, 2 and 3 are RESIDENT. */
    private static Opening littleRoom() {
        return fresh(8, 10).then(r -> {
            r.createFrom(0, 4);
            r.write(0, 3, 40, DONE);
            r.backUp(0);
            r.createFrom(1, 1);
            r.write(1, 0, 11, DONE);
            r.backUp(1);
            r.createFrom(2, 4, 3);
        });
    }

    private static Opening fullCartridges() {
        return fresh(20, 4).then(r -> {
            r.createAndBackUpFrom(0, 4, 4, 4, 4);
            r.createFrom(4, 1);
        });
    }

    private static Picture threeDoublesSeen() {
        return new Picture().doubled(0, 0, 0, 1, 2).doubled(1, 0, 2, 0, 0, 13).doubled(2, 0, 5, 20, 0, 0)
            .ends(8, 0, 0, 0).drive(0, 8, 28);
    }

    private static Picture fullCartridgesSeen() {
        return new Picture().doubled(0, 0, 0, 0, 0, 0, 0).doubled(1, 1, 0, 0, 0, 0, 0).doubled(2, 2, 0, 0, 0, 0, 0)
            .doubled(3, 3, 0, 0, 0, 0, 0).resident(4, 0).ends(4, 4, 4, 4).drive(3, 4, 96);
    }

    private static void afterTheOpenings() {
        seen("1 a new object", fresh(12, 10), new Picture());
        seen("three DOUBLE files", threeDoubles(), threeDoublesSeen());
        seen("two cartridges", twoCartridges(),
            new Picture().doubled(0, 0, 0, 0, 0, 3).doubled(1, 0, 3, -10, 0).doubled(2, 1, 0, 0, 0, 0, 23)
                .doubled(3, 1, 4, 30).ends(5, 5, 0, 0).drive(1, 5, 50));
        seen("one file is lost", oneIsLost(),
            new Picture().lost(0, 3).waits().resident(1, -10, 0).doubled(2, 1, 0, 0, 0, 0, 23).doubled(3, 1, 4, 30)
                .ends(0, 5, 0, 0).drive(1, 5, 50));
        seen("little room", littleRoom(),
            new Picture().stubWithoutRoom(0, 0, 0, 4).doubled(1, 0, 4, 11).resident(2, 0, 0, 0, 0)
                .resident(3, 0, 0, 0).ends(5, 0, 0, 0).drive(0, 5, 25));
        seen("full cartridges", fullCartridges(), fullCartridgesSeen());
    }

    private static void afterCreate() {
        seen("2 create", fresh(12, 10).then(r -> r.create(15, 4, DONE)), new Picture().resident(15, 0, 0, 0, 0));
        seen("2 create of two", fresh(12, 10).then(r -> {
            r.create(15, 4, DONE);
            r.create(0, 1, DONE);
        }), new Picture().resident(15, 0, 0, 0, 0).resident(0, 0));
    }

    private static void afterCreateThatMakesRoom() {
        seen("2 create makes two stubs", threeDoubles().then(r -> r.create(9, 4, DONE)),
            new Picture().stub(0, 0, 0, 1, 2).stub(1, 0, 2, 0, 0, 13).doubled(2, 0, 5, 20, 0, 0)
                .resident(9, 0, 0, 0, 0).ends(8, 0, 0, 0).drive(0, 8, 28));
        seen("2 create is FULL, what became a stub stays one", threeDoubles().then(r -> {
            r.write(1, 1, 12, DONE);
            r.write(2, 1, 21, DONE);
            r.create(9, 3, FULL);
        }), new Picture().stub(0, 0, 0, 1, 2).resident(1, 0, 12, 13).resident(2, 20, 21, 0)
            .ends(8, 0, 0, 0).drive(0, 8, 28));
    }

    private static void afterCreateAnew() {
        seen("2 create of a file that was DOUBLE before", threeDoubles().then(r -> {
            r.remove(1, DONE);
            r.create(1, 3, DONE);
        }), new Picture().doubled(0, 0, 0, 1, 2).doubled(2, 0, 5, 20, 0, 0).resident(1, 0, 0, 0)
            .ends(8, 0, 0, 0).drive(0, 8, 28));
        seen("2 create of a file that was RESIDENT before", fresh(12, 10).then(r -> {
            r.create(7, 4, DONE);
            r.write(7, 0, 1, DONE);
            r.write(7, 1, 2, DONE);
            r.write(7, 2, 3, DONE);
            r.write(7, 3, 4, DONE);
            r.remove(7, DONE);
            r.create(7, 4, DONE);
        }), new Picture().resident(7, 0, 0, 0, 0));
        seen("2 create of a file that was LOST and waited before", oneIsLost().then(r -> {
            r.remove(0, DONE);
            r.create(0, 2, DONE);
        }), new Picture().resident(1, -10, 0).doubled(2, 1, 0, 0, 0, 0, 23).doubled(3, 1, 4, 30).resident(0, 0, 0)
            .ends(0, 5, 0, 0).drive(1, 5, 50));
    }

    private static void afterWriteOnTheDisk() {
        seen("3 write of a RESIDENT file", fresh(12, 10).then(r -> {
            r.createFrom(0, 3, 1);
            r.write(0, 1, Integer.MIN_VALUE, DONE);
            r.write(0, 2, Integer.MAX_VALUE, DONE);
        }), new Picture().resident(1, 0).resident(0, 0, Integer.MIN_VALUE, Integer.MAX_VALUE));
        seen("3 write of a DOUBLE file", threeDoubles().then(r -> r.write(0, 1, -2, DONE)),
            new Picture().doubled(1, 0, 2, 0, 0, 13).doubled(2, 0, 5, 20, 0, 0).resident(0, 1, -2)
                .ends(8, 0, 0, 0).drive(0, 8, 28));
        seen("3 write, then a new copy and only that", threeDoubles().then(r -> {
            r.write(0, 0, 5, DONE);
            r.backUp(0);
            r.tidy(0, 0, 3);
        }), new Picture().stub(1, 0, 2, 0, 0, 13).stub(2, 0, 5, 20, 0, 0).stub(0, 0, 8, 5, 2)
            .ends(10, 0, 0, 0).drive(0, 10, 30));
    }

    private static void afterWriteOfAStub() {
        Opening twoStubs = threeDoubles().then(r -> r.tidy(7, 5, 2));
        seen("3 write of a STUB", twoStubs.then(r -> r.write(0, 0, 9, DONE)),
            new Picture().stub(1, 0, 2, 0, 0, 13).doubled(2, 0, 5, 20, 0, 0).resident(0, 9, 2)
                .ends(8, 0, 0, 0).drive(0, 2, 38));
        seen("3 write of a STUB that waits", twoStubs.then(r -> {
            r.ask(0, DONE);
            r.write(0, 0, 9, DONE);
        }), new Picture().stub(1, 0, 2, 0, 0, 13).doubled(2, 0, 5, 20, 0, 0).resident(0, 9, 2).waits()
            .ends(8, 0, 0, 0).drive(0, 2, 38));
        seen("3 write of a STUB makes another one", threeDoubles().then(r -> {
            r.tidy(7, 7, 1);
            r.create(9, 2, DONE);
            r.write(0, 1, 5, DONE);
        }), new Picture().stub(1, 0, 2, 0, 0, 13).doubled(2, 0, 5, 20, 0, 0).resident(9, 0, 0).resident(0, 1, 5)
            .ends(8, 0, 0, 0).drive(0, 2, 38));
    }

    private static void afterWriteThatFails() {
        seen("3 write is FULL, what became a stub stays one", littleRoom().then(r -> r.write(0, 0, 7, FULL)),
            new Picture().stubWithoutRoom(0, 0, 0, 4).stub(1, 0, 4, 11).resident(2, 0, 0, 0, 0)
                .resident(3, 0, 0, 0).ends(5, 0, 0, 0).drive(0, 5, 25));
        seen("3 write is GONE", oneIsLost().then(r -> r.write(0, 0, 1, GONE)),
            new Picture().lost(0, 3).waits().resident(1, -10, 0).doubled(2, 1, 0, 0, 0, 0, 23).doubled(3, 1, 4, 30)
                .ends(0, 5, 0, 0).drive(1, 5, 50));
    }

    private static void afterReadOnTheDisk() {
        seen("4 read of a RESIDENT file", fresh(12, 10).then(r -> {
            r.createFrom(0, 2);
            r.write(0, 1, 4, DONE);
            r.createFrom(1, 1);
            r.read(0, 1, 4);
        }), new Picture().resident(1, 0).resident(0, 0, 4));
        seen("4 read of a DOUBLE file", threeDoubles().then(r -> r.read(0, 1, 2)),
            new Picture().doubled(1, 0, 2, 0, 0, 13).doubled(2, 0, 5, 20, 0, 0).doubled(0, 0, 0, 1, 2)
                .ends(8, 0, 0, 0).drive(0, 8, 28));
    }

    private static void afterReadOfAStub() {
        seen("4 read of a STUB that waits", threeDoubles().then(r -> {
            r.tidy(7, 3, 2);
            r.ask(1, DONE);
            r.read(1, 2, 13);
        }), new Picture().stub(0, 0, 0, 1, 2).doubled(2, 0, 5, 20, 0, 0).doubled(1, 0, 2, 0, 0, 13).waits()
            .ends(8, 0, 0, 0).drive(0, 5, 37));
        seen("4 read of a STUB makes another one", littleRoom().then(r -> {
            r.remove(3, DONE);
            r.read(0, 3, 40);
        }), new Picture().stub(1, 0, 4, 11).resident(2, 0, 0, 0, 0).doubled(0, 0, 0, 0, 0, 0, 40)
            .ends(5, 0, 0, 0).drive(0, 4, 34));
        seen("4 read of a STUB on another cartridge", twoCartridges().then(r -> {
            r.tidy(9, 7, 1);
            r.read(0, 2, 3);
        }), new Picture().doubled(1, 0, 3, -10, 0).doubled(2, 1, 0, 0, 0, 0, 23).doubled(3, 1, 4, 30)
            .doubled(0, 0, 0, 0, 0, 3).ends(5, 5, 0, 0).drive(0, 3, 73));
    }

    private static void afterReadThatFails() {
        seen("4 read is NO_ROOM, what became a stub stays one", littleRoom().then(r -> r.read(0, 3, Run.NO_ROOM)),
            new Picture().stubWithoutRoom(0, 0, 0, 4).stub(1, 0, 4, 11).resident(2, 0, 0, 0, 0)
                .resident(3, 0, 0, 0).ends(5, 0, 0, 0).drive(0, 5, 25));
        seen("4 read is NO_FILE", oneIsLost().then(r -> r.read(0, 2, Run.NO_FILE)),
            new Picture().lost(0, 3).waits().resident(1, -10, 0).doubled(2, 1, 0, 0, 0, 0, 23).doubled(3, 1, 4, 30)
                .ends(0, 5, 0, 0).drive(1, 5, 50));
    }

    private static void afterRemove() {
        seen("5 remove of a RESIDENT file", fresh(12, 10).then(r -> {
            r.createFrom(0, 2, 1);
            r.remove(0, DONE);
        }), new Picture().resident(1, 0));
        seen("5 remove of a DOUBLE file", threeDoubles().then(r -> r.remove(1, DONE)),
            new Picture().doubled(0, 0, 0, 1, 2).doubled(2, 0, 5, 20, 0, 0).ends(8, 0, 0, 0).drive(0, 8, 28));
        seen("5 remove of a STUB that waits", threeDoubles().then(r -> {
            r.tidy(7, 3, 2);
            r.asks(1, 0);
            r.remove(1, DONE);
        }), new Picture().stub(0, 0, 0, 1, 2).waits().doubled(2, 0, 5, 20, 0, 0).ends(8, 0, 0, 0).drive(0, 8, 28));
        seen("5 remove of a LOST file that waits", oneIsLost().then(r -> r.remove(0, DONE)),
            new Picture().resident(1, -10, 0).doubled(2, 1, 0, 0, 0, 0, 23).doubled(3, 1, 4, 30)
                .ends(0, 5, 0, 0).drive(1, 5, 50));
    }

    private static void afterBackUpOntoTheHeldCartridge() {
        seen("6 backUp with the drive empty", fresh(12, 10).then(r -> {
            r.createFrom(5, 3);
            r.write(5, 1, 6, DONE);
            r.createFrom(4, 1);
            r.backUp(5);
        }), new Picture().doubled(5, 0, 0, 0, 6, 0).resident(4, 0).ends(3, 0, 0, 0).drive(0, 3, 23));
        seen("6 backUp up to LENGTH", threeDoubles().then(r -> {
            r.write(0, 0, 5, DONE);
            r.backUp(0);
        }), new Picture().doubled(1, 0, 2, 0, 0, 13).doubled(2, 0, 5, 20, 0, 0).doubled(0, 0, 8, 5, 2)
            .ends(10, 0, 0, 0).drive(0, 10, 30));
        seen("6 backUp with the head elsewhere", threeDoubles().then(r -> {
            r.tidy(7, 7, 1);
            r.write(0, 1, 3, DONE);
            r.backUp(0);
        }), new Picture().doubled(1, 0, 2, 0, 0, 13).doubled(2, 0, 5, 20, 0, 0).doubled(0, 0, 8, 1, 3)
            .ends(10, 0, 0, 0).drive(0, 10, 46));
    }

    private static void afterBackUpOntoAnotherCartridge() {
        Opening onOne = threeDoubles().then(r -> {
            r.write(0, 0, 5, DONE);
            r.backUp(0);
            r.write(1, 0, 6, DONE);
            r.backUp(1);
        });
        seen("6 backUp when the held cartridge is full", onOne,
            new Picture().doubled(2, 0, 5, 20, 0, 0).doubled(0, 0, 8, 5, 2).doubled(1, 1, 0, 6, 0, 13)
                .ends(10, 3, 0, 0).drive(1, 3, 53));
        seen("6 backUp stays with the held cartridge", onOne.then(r -> {
            r.write(2, 2, 7, DONE);
            r.backUp(2);
        }), new Picture().doubled(0, 0, 8, 5, 2).doubled(1, 1, 0, 6, 0, 13).doubled(2, 1, 3, 20, 0, 7)
            .ends(10, 6, 0, 0).drive(1, 6, 56));
    }

    private static void afterBackUpPastACartridgeWithRoom() {
        seen("6 backUp looks at the held cartridge first", threeDoubles().then(r -> {
            r.write(1, 0, 6, DONE);
            r.backUp(1);
            r.write(0, 0, 5, DONE);
            r.backUp(0);
        }), new Picture().doubled(2, 0, 5, 20, 0, 0).doubled(1, 1, 0, 6, 0, 13).doubled(0, 1, 3, 5, 2)
            .ends(8, 5, 0, 0).drive(1, 5, 53));
        seen("6 backUp fills the held cartridge first", threeDoubles().then(r -> {
            r.write(1, 0, 6, DONE);
            r.backUp(1);
            r.write(2, 2, 7, DONE);
            r.backUp(2);
            r.write(0, 0, 5, DONE);
            r.backUp(0);
            r.write(0, 1, 6, DONE);
            r.backUp(0);
        }), new Picture().doubled(1, 1, 0, 6, 0, 13).doubled(2, 1, 3, 20, 0, 7).doubled(0, 1, 8, 5, 6)
            .ends(8, 10, 0, 0).drive(1, 10, 58));
    }

    private static void afterBackUpThatFails() {
        seen("6 backUp is FULL", fullCartridges().then(r -> r.backUp(FULL)), fullCartridgesSeen());
        seen("6 backUp is REFUSED", threeDoubles().then(r -> r.backUp(Run.REFUSED)), threeDoublesSeen());
    }

    private static void afterTidy() {
        seen("7 tidy", threeDoubles().then(r -> r.tidy(7, 3, 2)),
            new Picture().stub(0, 0, 0, 1, 2).stub(1, 0, 2, 0, 0, 13).doubled(2, 0, 5, 20, 0, 0)
                .ends(8, 0, 0, 0).drive(0, 8, 28));
        seen("7 tidy leaves a RESIDENT file", threeDoubles().then(r -> {
            r.write(1, 0, 9, DONE);
            r.tidy(0, 0, 2);
        }), new Picture().stub(0, 0, 0, 1, 2).stub(2, 0, 5, 20, 0, 0).resident(1, 9, 0, 13)
            .ends(8, 0, 0, 0).drive(0, 8, 28));
        seen("7 tidy with just high taken", threeDoubles().then(r -> r.tidy(8, 0, 0)), threeDoublesSeen());
    }

    private static void afterAsk() {
        seen("8 ask", threeDoubles().then(r -> {
            r.tidy(0, 0, 3);
            r.asks(2, 0);
        }), new Picture().stub(0, 0, 0, 1, 2).waits().stub(1, 0, 2, 0, 0, 13).stub(2, 0, 5, 20, 0, 0).waits()
            .ends(8, 0, 0, 0).drive(0, 8, 28));
        Picture sixWait = new Picture();
        for (int file = 0; file < 6; file++) {
            sixWait.stub(file, 0, file, 0).waits();
        }
        seen("8 ask is FULL", fresh(24, 20).then(r -> {
            r.createAndBackUpFrom(0, 1, 1, 1, 1, 1, 1, 1);
            r.tidy(0, 0, 7);
            r.asks(5, 4, 3, 2, 1, 0);
            r.ask(6, FULL);
        }), sixWait.stub(6, 0, 6, 0).ends(7, 0, 0, 0).drive(0, 7, 27));
    }

    private static void afterServeInItsOrder() {
        seen("9 serve begins with the held cartridge", twoCartridges().then(r -> {
            r.tidy(0, 0, 4);
            r.asks(0, 3, 2);
            r.serve(3);
        }), new Picture().stub(1, 0, 3, -10, 0).doubled(2, 1, 0, 0, 0, 0, 23).doubled(3, 1, 4, 30)
            .doubled(0, 0, 0, 0, 0, 3).ends(5, 5, 0, 0).drive(0, 3, 83));
        seen("9 serve makes a STUB of what it brought back", fresh(4, 10).then(r -> {
            r.create(0, 3, DONE);
            r.write(0, 0, 1, DONE);
            r.backUp(0);
            r.create(1, 3, DONE);
            r.write(1, 0, 2, DONE);
            r.backUp(1);
            r.tidy(0, 0, 1);
            r.asks(1, 0);
            r.serve(2);
        }), new Picture().stub(0, 0, 0, 1, 0, 0).doubled(1, 0, 3, 2, 0, 0).ends(6, 0, 0, 0).drive(0, 6, 38));
    }

    private static void afterServeOfSome() {
        Opening served = threeDoubles().then(r -> {
            r.tidy(0, 0, 3);
            r.asks(2, 1);
            r.serve(2);
        });
        seen("9 serve leaves a STUB that does not wait", served,
            new Picture().stub(0, 0, 0, 1, 2).doubled(1, 0, 2, 0, 0, 13).doubled(2, 0, 5, 20, 0, 0)
                .ends(8, 0, 0, 0).drive(0, 8, 40));
        seen("9 serve of one that was served before", served.then(r -> {
            r.tidy(0, 0, 2);
            r.ask(1, DONE);
            r.serve(1);
        }), new Picture().stub(0, 0, 0, 1, 2).stub(2, 0, 5, 20, 0, 0).doubled(1, 0, 2, 0, 0, 13)
            .ends(8, 0, 0, 0).drive(0, 5, 49));
    }

    private static void afterServeWithoutRoom() {
        seen("9 serve goes on after one without room", littleRoom().then(r -> {
            r.tidy(0, 0, 1);
            r.asks(1, 0);
            r.serve(1);
        }), new Picture().stubWithoutRoom(0, 0, 0, 4).resident(2, 0, 0, 0, 0).resident(3, 0, 0, 0)
            .doubled(1, 0, 4, 11).ends(5, 0, 0, 0).drive(0, 5, 27));
    }

    private static void afterServeOfWhatIsNoStub() {
        seen("9 serve of a DOUBLE, a RESIDENT and a STUB that wait", threeDoubles().then(r -> {
            r.tidy(0, 0, 3);
            r.asks(0, 1, 2);
            r.read(1, 2, 13);
            r.write(2, 0, 21, DONE);
            r.serve(1);
        }), new Picture().doubled(1, 0, 2, 0, 0, 13).resident(2, 21, 0, 0).doubled(0, 0, 0, 1, 2)
            .ends(8, 0, 0, 0).drive(0, 2, 50));
        seen("9 serve of a LOST file that waits", oneIsLost().then(r -> r.serve(0)),
            new Picture().lost(0, 3).resident(1, -10, 0).doubled(2, 1, 0, 0, 0, 0, 23).doubled(3, 1, 4, 30)
                .ends(0, 5, 0, 0).drive(1, 5, 50));
    }

    private static void afterEmptyOfFullCartridges() {
        seen("10 empty of one that the drive does not hold", oneWaits().then(r -> r.empty(0, 2)),
            new Picture().stub(0, 2, 0, 0, 0, 3).waits().doubled(1, 2, 3, -10, 0).doubled(2, 1, 0, 0, 0, 0, 23)
                .doubled(3, 1, 4, 30).ends(0, 5, 5, 0).drive(2, 5, 146));
        seen("10 empty of the one that the drive holds", twoCartridges().then(r -> r.empty(1, 2)),
            new Picture().doubled(0, 0, 0, 0, 0, 3).doubled(1, 0, 3, -10, 0).doubled(2, 2, 0, 0, 0, 0, 23)
                .doubled(3, 2, 4, 30).ends(5, 0, 5, 0).drive(2, 5, 133));
    }

    private static void afterEmptyOfOneAfterTheOther() {
        seen("10 empty onto the one that was emptied before", twoCartridges().then(r -> {
            r.empty(0, 2);
            r.empty(1, 2);
        }), new Picture().doubled(0, 2, 0, 0, 0, 3).doubled(1, 2, 3, -10, 0).doubled(2, 0, 0, 0, 0, 0, 23)
            .doubled(3, 0, 4, 30).ends(5, 0, 5, 0).drive(0, 5, 244));
    }

    private static void afterEmptyOntoTwoCartridges() {
        seen("10 empty looks at the others anew for each file", fresh(24, 8).then(r -> {
            r.createFrom(0, 3, 2, 2, 4, 2);
            r.write(0, 0, 1, DONE);
            r.write(1, 0, 2, DONE);
            r.write(2, 1, 3, DONE);
            r.read(3, 0, 0);
            r.read(4, 0, 0);
            r.backUps(0, 1, 2, 3, 4);
            r.write(1, 1, 9, DONE);
            r.empty(0, 2);
        }), new Picture().doubled(0, 2, 0, 1, 0, 0).doubled(2, 1, 6, 0, 3).doubled(3, 1, 0, 0, 0, 0, 0)
            .doubled(4, 1, 4, 0, 0).resident(1, 2, 9).ends(0, 8, 3, 0).drive(1, 8, 154));
    }

    private static void afterEmptyOfDeadCopies() {
        Opening emptied = threeDoubles().then(r -> {
            r.remove(0, DONE);
            r.remove(1, DONE);
            r.remove(2, DONE);
            r.empty(0, 0);
        });
        seen("10 empty of dead copies leaves the head", emptied, new Picture().drive(0, 8, 28));
        seen("10 empty makes the places free again", emptied.then(r -> {
            r.create(3, 1, DONE);
            r.backUp(3);
        }), new Picture().doubled(3, 0, 0, 0).ends(1, 0, 0, 0).drive(0, 1, 37));
    }

    private static void afterEmptyThatFails() {
        seen("10 empty is FULL", fullCartridges().then(r -> r.empty(2, FULL)), fullCartridgesSeen());
        seen("10 empty is FULL when the last one finds no place", fresh(24, 5).then(r -> {
            r.createFrom(0, 3, 2, 4, 4, 2);
            r.backUps(0, 1, 2, 3, 4);
            r.empty(0, FULL);
        }), new Picture().doubled(0, 0, 0, 0, 0, 0).doubled(1, 0, 3, 0, 0).doubled(2, 1, 0, 0, 0, 0, 0)
            .doubled(3, 2, 0, 0, 0, 0, 0).doubled(4, 3, 0, 0, 0).ends(5, 4, 4, 2).drive(3, 2, 95));
    }

    private static void afterLose() {
        seen("11 lose of one that the drive does not hold", oneWaits().then(r -> r.lose(0, 1)),
            new Picture().lost(0, 3).waits().resident(1, -10, 0).doubled(2, 1, 0, 0, 0, 0, 23).doubled(3, 1, 4, 30)
                .ends(0, 5, 0, 0).drive(1, 5, 50));
        Opening heldIsLost = twoCartridges().then(r -> r.lose(1, 0));
        seen("11 lose of the one that the drive holds", heldIsLost,
            new Picture().doubled(0, 0, 0, 0, 0, 3).doubled(1, 0, 3, -10, 0).resident(2, 0, 0, 0, 23)
                .resident(3, 30).ends(5, 0, 0, 0).drive(NO_CARTRIDGE, 0, 50));
        seen("11 lose puts an empty cartridge there", heldIsLost.then(r -> r.backUp(2)),
            new Picture().doubled(0, 0, 0, 0, 0, 3).doubled(1, 0, 3, -10, 0).doubled(2, 1, 0, 0, 0, 0, 23)
                .resident(3, 30).ends(5, 4, 0, 0).drive(1, 4, 74));
        seen("11 lose twice, the second one empty", heldIsLost.then(r -> r.lose(1, 0)),
            new Picture().doubled(0, 0, 0, 0, 0, 3).doubled(1, 0, 3, -10, 0).resident(2, 0, 0, 0, 23)
                .resident(3, 30).ends(5, 0, 0, 0).drive(NO_CARTRIDGE, 0, 50));
    }
}
