import java.util.ArrayList;
import java.util.List;
import java.util.function.Function;
import java.util.function.ToLongFunction;

/**
 * A call that is refused changes nothing, and neither does one that says so of its FULL or GONE.
 *
 * <p>Two stores are built by the same calls; one of them gets the call as well. After that both must
 * give the same answers to every question, and to a number of calls that bring hidden changes to light.
 */
public final class RefusalEdgeTest {
    private static final int[] BAD_FILES = {-1, 16, 17, Integer.MIN_VALUE, Integer.MAX_VALUE};
    private static final int[] BAD_LENGTHS = {0, 5, 6, -1, Integer.MIN_VALUE, Integer.MAX_VALUE};
    private static final int[] BAD_CELLS = {-1, 4, 5, Integer.MIN_VALUE, Integer.MAX_VALUE};
    private static final int[] BAD_CARTRIDGES = {-1, 4, 5, Integer.MIN_VALUE, Integer.MAX_VALUE};
    private static final int[] BAD_WHATS = {-1, 6, 7, Integer.MIN_VALUE, Integer.MAX_VALUE};
    private static final int[][] BAD_HIGHS_AND_LOWS = {{-1, -1}, {-1, 0}, {0, -1}, {24, -1}, {25, 0}, {25, 24},
        {25, 25}, {24, 25}, {0, 1}, {3, 4}, {23, 24}, {Integer.MAX_VALUE, 0}, {0, Integer.MIN_VALUE},
        {0, Integer.MAX_VALUE}, {Integer.MIN_VALUE, 0}};

    private static final Check CHECK = new Check();

    private record Call(String name, long want, ToLongFunction<TierStore> made) {
    }

    private record Scene(String name, Function<Check, Run> built) {
    }

    private static final List<Scene> SCENES = List.of(
        new Scene("fresh", Scenes::fresh),
        new Scene("mixed", Scenes::mixed),
        new Scene("fullOfResidents", Scenes::fullOfResidents),
        new Scene("fullOfDoubles", Scenes::fullOfDoubles),
        new Scene("sixWait", Scenes::sixWait),
        new Scene("fullCartridges", Scenes::fullCartridges));

    public static void main(String[] args) {
        inEveryScene(badFiles());
        inEveryScene(badLengths());
        inEveryScene(badCells());
        inEveryScene(badHighsAndLows());
        inEveryScene(badCartridges());
        inEveryScene(badWhats());
        inEveryScene(absentFiles());
        inScene("mixed", notAbsentFiles());
        inScene("mixed", notCellsOfTheFile());
        inScene("mixed", lostFiles());
        inScene("mixed", filesThatMayNotAsk());
        inScene("sixWait", seventhFile());
        inScene("fresh", nothingToBackUp());
        inScene("fullOfDoubles", nothingToBackUp());
        inScene("fullCartridges", noPlaceForCopies());
        inScene("fullOfResidents", noRoomAndNoDouble());
        questionsChangeNothing();
        CHECK.end();
    }

    private static void inEveryScene(List<Call> calls) {
        for (Scene scene : SCENES) {
            inScene(scene.name(), calls);
        }
    }

    private static void inScene(String name, List<Call> calls) {
        for (Scene scene : SCENES) {
            if (scene.name().equals(name)) {
                for (Call call : calls) {
                    changesNothing(scene, call);
                }
            }
        }
    }

    private static void changesNothing(Scene scene, Call call) {
        CHECK.topic("a refused call in the scene " + scene.name());
        Run plain = scene.built().apply(CHECK);
        Run tried = scene.built().apply(CHECK);
        CHECK.due(call.name(), tried.answer(call.made()), call.want());
        List<Call> later = laterCalls();
        for (Call next : later) {
            CHECK.due(call.name() + ", then " + next.name(), tried.answer(next.made()), plain.answer(next.made()));
        }
    }

    /** Every question, then calls that bring cells, orders and places to light, and the questions again. */
    private static List<Call> laterCalls() {
        List<Call> later = new ArrayList<>(questions());
        for (int f = 0; f < Run.FILES; f++) {
            for (int c = 0; c < 4; c++) {
                int file = f;
                int cell = c;
                later.add(new Call("read(" + f + ", " + c + ")", 0, x -> x.read(file, cell)));
            }
        }
        later.add(new Call("serve()", 0, x -> x.serve()));
        for (int turn = 0; turn < 4; turn++) {
            later.add(new Call("backUp()", 0, x -> x.backUp()));
        }
        later.add(new Call("empty(0)", 0, x -> x.empty(0)));
        later.add(new Call("create(15, 4)", 0, x -> x.create(15, 4)));
        later.addAll(questions());
        return later;
    }

    private static List<Call> questions() {
        List<Call> questions = new ArrayList<>();
        for (int f = 0; f < Run.FILES; f++) {
            for (int w = 0; w < 6; w++) {
                int file = f;
                int what = w;
                questions.add(new Call("file(" + f + ", " + w + ")", 0, x -> x.file(file, what)));
            }
        }
        for (int c = 0; c < Run.CARTRIDGES; c++) {
            for (int w = 0; w < 3; w++) {
                int cartridge = c;
                int what = w;
                questions.add(new Call("cartridge(" + c + ", " + w + ")", 0, x -> x.cartridge(cartridge, what)));
            }
        }
        for (int w = 0; w < 4; w++) {
            int what = w;
            questions.add(new Call("count(" + w + ")", 0, x -> x.count(what)));
        }
        return questions;
    }

    private static Call create(int file, int length, int want) {
        return new Call("create(" + file + ", " + length + ")", want, x -> x.create(file, length));
    }

    private static Call write(int file, int i, int want) {
        return new Call("write(" + file + ", " + i + ", 77)", want, x -> x.write(file, i, 77));
    }

    private static Call read(int file, int i, long want) {
        return new Call("read(" + file + ", " + i + ")", want, x -> x.read(file, i));
    }

    private static Call remove(int file) {
        return new Call("remove(" + file + ")", Run.REFUSED, x -> x.remove(file));
    }

    private static Call ask(int file, int want) {
        return new Call("ask(" + file + ")", want, x -> x.ask(file));
    }

    private static List<Call> badFiles() {
        List<Call> calls = new ArrayList<>();
        for (int bad : BAD_FILES) {
            for (int length = 1; length <= 4; length++) {
                calls.add(create(bad, length, Run.REFUSED));
            }
            for (int i = 0; i < 4; i++) {
                calls.add(write(bad, i, Run.REFUSED));
                calls.add(read(bad, i, Run.NONE));
            }
            calls.add(remove(bad));
            calls.add(ask(bad, Run.REFUSED));
            for (int w = 0; w < 6; w++) {
                int what = w;
                calls.add(new Call("file(" + bad + ", " + w + ")", Run.REFUSED, x -> x.file(bad, what)));
            }
        }
        return calls;
    }

    private static List<Call> badLengths() {
        List<Call> calls = new ArrayList<>();
        for (int bad : BAD_LENGTHS) {
            for (int file : new int[] {0, 4, 9, 15}) {
                calls.add(create(file, bad, Run.REFUSED));
            }
        }
        return calls;
    }

    private static List<Call> badCells() {
        List<Call> calls = new ArrayList<>();
        for (int bad : BAD_CELLS) {
            for (int file = 0; file < 9; file++) {
                calls.add(write(file, bad, Run.REFUSED));
                calls.add(read(file, bad, Run.NONE));
            }
        }
        return calls;
    }

    private static List<Call> badHighsAndLows() {
        List<Call> calls = new ArrayList<>();
        for (int[] pair : BAD_HIGHS_AND_LOWS) {
            int high = pair[0];
            int low = pair[1];
            calls.add(new Call("tidy(" + high + ", " + low + ")", Run.REFUSED, x -> x.tidy(high, low)));
        }
        return calls;
    }

    private static List<Call> badCartridges() {
        List<Call> calls = new ArrayList<>();
        for (int bad : BAD_CARTRIDGES) {
            calls.add(new Call("empty(" + bad + ")", Run.REFUSED, x -> x.empty(bad)));
            calls.add(new Call("lose(" + bad + ")", Run.REFUSED, x -> x.lose(bad)));
            for (int w = 0; w < 3; w++) {
                int what = w;
                calls.add(new Call("cartridge(" + bad + ", " + w + ")", Run.REFUSED, x -> x.cartridge(bad, what)));
            }
        }
        return calls;
    }

    private static List<Call> badWhats() {
        List<Call> calls = new ArrayList<>();
        for (int bad : BAD_WHATS) {
            calls.add(new Call("file(1, " + bad + ")", Run.REFUSED, x -> x.file(1, bad)));
            calls.add(new Call("cartridge(0, " + bad + ")", Run.REFUSED, x -> x.cartridge(0, bad)));
            calls.add(new Call("count(" + bad + ")", Run.REFUSED, x -> x.count(bad)));
        }
        calls.add(new Call("cartridge(3, 3)", Run.REFUSED, x -> x.cartridge(3, 3)));
        calls.add(new Call("count(4)", Run.REFUSED, x -> x.count(4)));
        return calls;
    }

    /** The files 9 and 15 are absent in each scene. */
    private static List<Call> absentFiles() {
        List<Call> calls = new ArrayList<>();
        for (int file : new int[] {9, 15}) {
            for (int i = 0; i < 4; i++) {
                calls.add(write(file, i, Run.REFUSED));
                calls.add(read(file, i, Run.NONE));
            }
            calls.add(remove(file));
            calls.add(ask(file, Run.REFUSED));
        }
        return calls;
    }

    private static List<Call> notAbsentFiles() {
        List<Call> calls = new ArrayList<>();
        for (int file = Scenes.RESIDENT_FILE; file <= Scenes.WAITING_LOST; file++) {
            for (int length = 1; length <= 4; length++) {
                calls.add(create(file, length, Run.REFUSED));
            }
        }
        return calls;
    }

    private static List<Call> notCellsOfTheFile() {
        List<Call> calls = new ArrayList<>();
        int[][] filesAndCells = {{Scenes.RESIDENT_FILE, 2}, {Scenes.RESIDENT_FILE, 3}, {Scenes.DOUBLE_FILE, 3},
            {Scenes.STUB_FILE, 3}, {Scenes.WAITING_STUB, 2}, {Scenes.WAITING_STUB, 3}};
        for (int[] pair : filesAndCells) {
            calls.add(write(pair[0], pair[1], Run.REFUSED));
            calls.add(read(pair[0], pair[1], Run.NONE));
        }
        return calls;
    }

    private static List<Call> lostFiles() {
        List<Call> calls = new ArrayList<>();
        for (int i = 0; i < 4; i++) {
            calls.add(write(Scenes.LOST_FILE, i, Run.GONE));
            calls.add(read(Scenes.LOST_FILE, i, Run.NO_FILE));
            calls.add(write(Scenes.WAITING_LOST, i, Run.GONE));
            calls.add(read(Scenes.WAITING_LOST, i, Run.NO_FILE));
        }
        return calls;
    }

    private static List<Call> filesThatMayNotAsk() {
        List<Call> calls = new ArrayList<>();
        int[] files = {Scenes.ABSENT_FILE, Scenes.RESIDENT_FILE, Scenes.DOUBLE_FILE, Scenes.LOST_FILE,
            Scenes.WAITING_STUB, Scenes.WAITING_LOST};
        for (int file : files) {
            calls.add(ask(file, Run.REFUSED));
        }
        return calls;
    }

    private static List<Call> seventhFile() {
        List<Call> calls = new ArrayList<>();
        calls.add(ask(6, Run.FULL));
        for (int file : new int[] {0, 5, 7, 8, 9, 15}) {
            calls.add(ask(file, Run.REFUSED));
        }
        return calls;
    }

    private static List<Call> nothingToBackUp() {
        return List.of(new Call("backUp()", Run.REFUSED, x -> x.backUp()));
    }

    private static List<Call> noPlaceForCopies() {
        List<Call> calls = new ArrayList<>();
        calls.add(new Call("backUp()", Run.FULL, x -> x.backUp()));
        for (int c = 0; c < Run.CARTRIDGES; c++) {
            int cartridge = c;
            calls.add(new Call("empty(" + c + ")", Run.FULL, x -> x.empty(cartridge)));
        }
        return calls;
    }

    /** No file can become a STUB here, so that FULL leaves nothing behind either. */
    private static List<Call> noRoomAndNoDouble() {
        List<Call> calls = new ArrayList<>();
        for (int length = 1; length <= 4; length++) {
            calls.add(create(9, length, Run.FULL));
        }
        calls.add(write(2, 0, Run.FULL));
        calls.add(read(2, 0, Run.NO_ROOM));
        return calls;
    }

    private static void questionsChangeNothing() {
        for (Scene scene : SCENES) {
            for (Call question : questions()) {
                Run plain = scene.built().apply(CHECK);
                changesNothing(scene, new Call(question.name(), plain.answer(question.made()), question.made()));
            }
        }
    }
}
