import java.util.ArrayList;
import java.util.Comparator;
import java.util.List;

/**
 * A second reading of the document, built differently from the program on purpose: the cells are
 * really moved between disk and cartridges, and the order of use is a list, not a row of numbers.
 */
final class Model {
    private static final class Copy {
        final Document owner;
        final int tape;
        final int place;

        Copy(Document owner, int tape, int place) {
            this.owner = owner;
            this.tape = tape;
            this.place = place;
        }
    }

    private static final class Document {
        final int number;
        final int length;
        int[] onDisk;
        Copy copy;
        boolean waiting;

        Document(int number, int length) {
            this.number = number;
            this.length = length;
            this.onDisk = new int[length];
        }

        int state() {
            if (onDisk != null) {
                return copy == null ? 1 : 2;
            }
            return copy == null ? 4 : 3;
        }
    }

    private static final class Tape {
        final List<Integer> units = new ArrayList<>();
    }

    private final int room;
    private final int length;
    /** The present files, the one that was used longest ago first. */
    private final List<Document> byUse = new ArrayList<>();
    private final Tape[] tapes = {new Tape(), new Tape(), new Tape(), new Tape()};
    private Tape held;
    private int head;
    private int cost;

    Model(int room, int length) {
        this.room = room < 4 ? 4 : room > 24 ? 24 : room;
        this.length = length < 4 ? 4 : length > 20 ? 20 : length;
    }

    private Document find(int number) {
        return byUse.stream().filter(d -> d.number == number).findFirst().orElse(null);
    }

    private Document oldest(int state) {
        return byUse.stream().filter(d -> d.state() == state).findFirst().orElse(null);
    }

    private int taken() {
        return byUse.stream().filter(d -> d.onDisk != null).mapToInt(d -> d.length).sum();
    }

    private void use(Document d) {
        byUse.remove(d);
        byUse.add(d);
    }

    private void travel(int tape, int place, int n) {
        if (held != tapes[tape]) {
            cost += 20;
            held = tapes[tape];
            head = 0;
        }
        cost += Math.max(head, place) - Math.min(head, place) + n;
        head = place + n;
    }

    private boolean makeRoom(int n) {
        while (room - taken() < n) {
            Document d = oldest(2);
            if (d == null) {
                return false;
            }
            d.onDisk = null;
        }
        return true;
    }

    private int[] cellsOn(Copy copy) {
        int[] cells = new int[copy.owner.length];
        for (int k = 0; k < cells.length; k++) {
            cells[k] = tapes[copy.tape].units.get(copy.place + k);
        }
        return cells;
    }

    private boolean bringBack(Document d) {
        if (!makeRoom(d.length)) {
            return false;
        }
        travel(d.copy.tape, d.copy.place, d.length);
        d.onDisk = cellsOn(d.copy);
        use(d);
        return true;
    }

    private List<Integer> lookingOrder(int banned) {
        List<Integer> order = new ArrayList<>();
        for (int t = 0; t < 4; t++) {
            if (t != banned) {
                order.add(t);
            }
        }
        order.sort(Comparator.comparingInt(t -> tapes[t] == held ? 0 : 1));
        return order;
    }

    private boolean copyOnto(Document d, int[] cells, int banned) {
        for (int t : lookingOrder(banned)) {
            int end = tapes[t].units.size();
            if (end + d.length <= length) {
                travel(t, end, d.length);
                for (int cell : cells) {
                    tapes[t].units.add(cell);
                }
                d.copy = new Copy(d, t, end);
                return true;
            }
        }
        return false;
    }

    private List<Document> liveOn(int tape) {
        List<Document> live = new ArrayList<>();
        for (Document d : byUse) {
            if (d.copy != null && d.copy.tape == tape) {
                live.add(d);
            }
        }
        live.sort(Comparator.comparingInt(d -> d.copy.place));
        return live;
    }

    private static boolean within(int n, int from, int to) {
        return from <= n && n <= to;
    }

    int create(int file, int n) {
        if (!within(file, 0, 15) || !within(n, 1, 4) || find(file) != null) {
            return -1;
        }
        if (!makeRoom(n)) {
            return -2;
        }
        byUse.add(new Document(file, n));
        return 0;
    }

    int write(int file, int i, int value) {
        Document d = find(file);
        if (d == null || !within(i, 0, d.length - 1)) {
            return -1;
        }
        if (d.state() == 4) {
            return -3;
        }
        if (d.state() == 3 && !bringBack(d)) {
            return -2;
        }
        d.onDisk[i] = value;
        d.copy = null;
        use(d);
        return 0;
    }

    long read(int file, int i) {
        Document d = find(file);
        if (d == null || !within(i, 0, d.length - 1)) {
            return -1000000000000L;
        }
        if (d.state() == 4) {
            return -3000000000000L;
        }
        if (d.state() == 3 && !bringBack(d)) {
            return -2000000000000L;
        }
        use(d);
        return d.onDisk[i];
    }

    int remove(int file) {
        Document d = find(file);
        if (d == null) {
            return -1;
        }
        byUse.remove(d);
        return 0;
    }

    int backUp() {
        Document d = oldest(1);
        if (d == null) {
            return -1;
        }
        return copyOnto(d, d.onDisk, -1) ? d.number : -2;
    }

    int tidy(int high, int low) {
        if (!within(high, 0, 24) || !within(low, 0, high)) {
            return -1;
        }
        int stubs = 0;
        if (taken() > high) {
            while (taken() > low && oldest(2) != null) {
                oldest(2).onDisk = null;
                stubs++;
            }
        }
        return stubs;
    }

    int ask(int file) {
        Document d = find(file);
        if (d == null || d.state() != 3 || d.waiting) {
            return -1;
        }
        if (count(3) == 6) {
            return -2;
        }
        d.waiting = true;
        return 0;
    }

    int serve() {
        List<Document> queue = new ArrayList<>();
        for (int t : lookingOrder(-1)) {
            for (Document d : liveOn(t)) {
                if (d.waiting && d.state() == 3) {
                    queue.add(d);
                }
            }
        }
        byUse.forEach(d -> d.waiting = false);
        int back = 0;
        for (Document d : queue) {
            back += bringBack(d) ? 1 : 0;
        }
        return back;
    }

    private boolean allFit(List<Document> live, int emptied) {
        int[] free = new int[4];
        for (int t = 0; t < 4; t++) {
            free[t] = t == emptied ? 0 : length - tapes[t].units.size();
        }
        for (Document d : live) {
            int t = 0;
            while (t < 4 && free[t] < d.length) {
                t++;
            }
            if (t == 4) {
                return false;
            }
            free[t] -= d.length;
        }
        return true;
    }

    int empty(int tape) {
        if (!within(tape, 0, 3)) {
            return -1;
        }
        List<Document> live = liveOn(tape);
        if (!allFit(live, tape)) {
            return -2;
        }
        for (Document d : live) {
            travel(tape, d.copy.place, d.length);
            copyOnto(d, cellsOn(d.copy), tape);
        }
        tapes[tape].units.clear();
        return live.size();
    }

    int lose(int tape) {
        if (!within(tape, 0, 3)) {
            return -1;
        }
        int lost = 0;
        for (Document d : liveOn(tape)) {
            d.copy = null;
            lost += d.state() == 4 ? 1 : 0;
        }
        if (held == tapes[tape]) {
            held = null;
            head = 0;
        }
        tapes[tape] = new Tape();
        return lost;
    }

    int file(int file, int what) {
        if (!within(file, 0, 15) || !within(what, 0, 5)) {
            return -1;
        }
        Document d = find(file);
        if (d == null) {
            return what == 0 || what == 1 || what == 4 ? 0 : -1;
        }
        return new int[] {d.state(), d.length, d.copy == null ? -1 : d.copy.tape,
            d.copy == null ? -1 : d.copy.place, d.waiting ? 1 : 0, byUse.size() - 1 - byUse.indexOf(d)}[what];
    }

    int cartridge(int tape, int what) {
        if (!within(tape, 0, 3) || !within(what, 0, 2)) {
            return -1;
        }
        return new int[] {tapes[tape].units.size(), liveOn(tape).stream().mapToInt(d -> d.length).sum(),
            held == tapes[tape] ? 1 : 0}[what];
    }

    int count(int what) {
        switch (what) {
            case 0:
                return taken();
            case 1:
                return cost;
            case 2:
                return head;
            case 3:
                return (int) byUse.stream().filter(d -> d.waiting).count();
            default:
                return -1;
        }
    }
}
