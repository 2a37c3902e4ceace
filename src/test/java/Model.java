import java.util.ArrayList;
import java.util.Comparator;
import java.util.List;
import java.util.TreeSet;

/**
 * The document once more, told in another way, to hold the program against it: times are kept as the MINUTES at
 * which they end, ways are found by trying all of them, and a diary is a copy of all beliefs for each MINUTE.
 */
public final class Model {
    private static final class D {
        int cell, cords, runners, linesmen, battery = 60, state, book = 1, done, late, lastOrder = -1, moves;
        boolean set;
        int[] birds = new int[6], stamps = new int[6], believed = {-1, -1, -1, -1, -1, -1};
    }

    private static final class W {
        int one, two;
        List<Integer> cells;
        TreeSet<Integer> broken = new TreeSet<>(), buried = new TreeSet<>();
        boolean dead;
        boolean whole() { return !dead && broken.isEmpty(); }
    }

    private static final class L {
        int wire, end, place, until;
        List<Integer> cells;
        int[] pace;
        boolean mending;
    }

    private static final class M {
        int from, to, rank, words, code, value, origin, book, st, at, means = -1, due, came = -1, next, wire = -1;
        int stamp;
        boolean order, heard;
        List<Integer> cells;
        int[] enters, leaves;
    }

    private int minute, jamEnd, post = -1, lady, runnersLost, linesmenLost, runnersTold, linesmenTold;
    private final int[] height = new int[64], sort = new int[64], smokeEnd = new int[64];
    private final TreeSet<Integer> captured = new TreeSet<>();
    private final List<D> desks = new ArrayList<>();
    private final List<W> wires = new ArrayList<>();
    private final List<L> men = new ArrayList<>();
    private final List<M> messages = new ArrayList<>();
    private final List<int[][]> diaries = new ArrayList<>();

    public Model() {
        keepDiary();
    }

    private void keepDiary() {
        int[][] page = new int[6][];
        for (int d = 0; d < 6; d++) {
            page[d] = d < desks.size() ? desks.get(d).believed.clone() : new int[] {-1, -1, -1, -1, -1, -1};
        }
        diaries.add(page);
    }

    // ---- what is looked up

    private static void index(boolean isThere) {
        if (!isThere) { throw new IndexOutOfBoundsException(); }
    }

    private static void argument(boolean isGood) {
        if (!isGood) { throw new IllegalArgumentException(); }
    }

    private static void state(boolean isGood) {
        if (!isGood) { throw new IllegalStateException(); }
    }

    private static boolean in(int x, int low, int high) { return low <= x && x <= high; }

    private void cells(int... numbers) { for (int n : numbers) { index(in(n, 0, 63)); } }

    private void deskNumbers(int... numbers) { for (int n : numbers) { index(in(n, 0, desks.size() - 1)); } }

    private static int steps(int a, int b) {
        int rows = a / 8 - b / 8, columns = a % 8 - b % 8;
        return Math.max(Math.max(rows, -rows), Math.max(columns, -columns));
    }

    private static List<Integer> path(int from, int to) {
        int rows = to / 8 - from / 8, columns = to % 8 - from % 8;
        int across = Math.min(Math.abs(rows), Math.abs(columns));
        int sr = Integer.signum(rows), sc = Integer.signum(columns);
        List<Integer> all = new ArrayList<>();
        for (int k = 0; k <= across; k++) { all.add(from + k * (sr * 8 + sc)); }
        int corner = from + across * (sr * 8 + sc);
        int rest = Math.abs(rows) > Math.abs(columns) ? sr * 8 : sc;
        for (int k = 1; k <= steps(from, to) - across; k++) { all.add(corner + k * rest); }
        return all;
    }

    private boolean smoky(int cell) { return smokeEnd[cell] > minute; }

    public boolean sees(int one, int two) {
        cells(one, two);
        List<Integer> all = path(Math.min(one, two), Math.max(one, two));
        if (smoky(one) || smoky(two)) { return false; }
        for (int cell : all.subList(1, Math.max(1, all.size() - 1))) {
            if (smoky(cell) || sort[cell] == 1 || height[cell] > height[one] && height[cell] > height[two]) {
                return false;
            }
        }
        return true;
    }

    private int pace(int cell) { return new int[] {4, 6, 3, 9}[sort[cell]]; }

    /** The best way as its DESKS, or null: all ways are tried. */
    private List<Integer> way(int from, int to, int without) {
        List<List<Integer>> found = new ArrayList<>();
        tryWays(new ArrayList<>(List.of(from)), to, without, found);
        found.sort(Comparator.<List<Integer>>comparingInt(List::size).thenComparing(Object::toString));
        return found.isEmpty() ? null : found.get(0);
    }

    private void tryWays(List<Integer> soFar, int to, int without, List<List<Integer>> found) {
        int last = soFar.get(soFar.size() - 1);
        if (last == to) {
            found.add(new ArrayList<>(soFar));
            return;
        }
        for (int w = 0; w < wires.size(); w++) {
            W wire = wires.get(w);
            if (w == without || !wire.whole()) { continue; }
            int other = wire.one == last ? wire.two : wire.two == last ? wire.one : -1;
            if (other >= 0 && !soFar.contains(other)) {
                soFar.add(other);
                tryWays(soFar, to, without, found);
                soFar.remove(soFar.size() - 1);
            }
        }
    }

    private int wireOnWay(int from, int next) {
        for (int w = 0; w < wires.size(); w++) {
            W wire = wires.get(w);
            if (wire.whole() && Math.min(wire.one, wire.two) == Math.min(from, next)
                    && Math.max(wire.one, wire.two) == Math.max(from, next)) {
                return w;
            }
        }
        return -1;
    }

    private int count(int st) { return (int) messages.stream().filter(m -> m.st == st).count(); }

    private int going(int means, int from) {
        return (int) messages.stream().filter(m -> m.st == 1 && m.means == means && (from < 0 || m.at == from)).count();
    }

    private int carriedBy(int wire) {
        for (int m = 0; m < messages.size(); m++) {
            if (messages.get(m).st == 1 && messages.get(m).means == 0 && messages.get(m).wire == wire) { return m; }
        }
        return -1;
    }

    private boolean lampReach(int a, int b) { return steps(a, b) <= 5 && sees(a, b); }

    private boolean night() { int h = minute / 60 % 24; return h <= 5 || h >= 19; }

    private int jamLeft() { return Math.max(0, jamEnd - minute); }

    private boolean hearsWire(W wire) {
        return post >= 0 && wire.cells.stream().anyMatch(c -> !wire.buried.contains(c) && steps(c, post) < 3);
    }

    private boolean hearsLamp(int desk) {
        return desks.get(desk).cell < 16 || post >= 0 && sees(desks.get(desk).cell, post);
    }

    private boolean read(M m) { return m.heard && (m.code == 0 || captured.contains(m.book)); }

    // ---- what is told

    public int ground(int from, int to, int h, int s) {
        cells(from, to);
        argument(from <= to && in(h, 0, 9) && in(s, 0, 3));
        int changed = 0;
        for (int c = from; c <= to; c++) {
            changed += height[c] == h && sort[c] == s ? 0 : 1;
            height[c] = h;
            sort[c] = s;
        }
        return changed;
    }

    public int desk(int cell, int cords, int runners, int linesmen, boolean hasSet) {
        cells(cell);
        argument(in(cords, 1, 4) && in(runners, 0, 9) && in(linesmen, 0, 9));
        state(desks.size() < 6);
        D d = new D();
        d.cell = cell;
        d.cords = cords;
        d.runners = runners;
        d.linesmen = linesmen;
        d.set = hasSet;
        desks.add(d);
        runnersTold += runners;
        linesmenTold += linesmen;
        return desks.size() - 1;
    }

    public int state(int desk, int state) {
        deskNumbers(desk);
        argument(in(state, -99, 99));
        int old = desks.get(desk).state;
        desks.get(desk).state = state;
        return old;
    }

    public int wire(int one, int two, boolean isBuried) {
        deskNumbers(one, two);
        argument(one != two);
        state(wires.size() < 10);
        W w = new W();
        w.one = one;
        w.two = two;
        w.cells = path(desks.get(one).cell, desks.get(two).cell);
        if (isBuried) { w.buried.addAll(w.cells); }
        wires.add(w);
        return wires.size() - 1;
    }

    public int shell(int cell) {
        cells(cell);
        int broken = 0;
        for (W w : wires) {
            if (!w.dead && w.cells.contains(cell) && !w.buried.remove(cell) && w.broken.add(cell)) { broken++; }
        }
        List<L> hit = new ArrayList<>(men);
        hit.removeIf(l -> l.cells.get(l.place) != cell);
        men.removeAll(hit);
        linesmenLost += hit.size();
        for (M m : messages) {
            if (m.st == 1 && m.means == 3) {
                for (int k = 1; k < m.cells.size(); k++) {
                    if (m.cells.get(k) == cell && m.enters[k] <= minute && minute < m.leaves[k]) {
                        m.st = 3;
                        runnersLost++;
                    }
                }
            }
        }
        smokeEnd[cell] = Math.max(smokeEnd[cell], minute + 5);
        return broken;
    }

    public int mend(int desk, int wire) {
        deskNumbers(desk);
        index(in(wire, 0, wires.size() - 1));
        W w = wires.get(wire);
        D d = desks.get(desk);
        state(!w.dead && (w.one == desk || w.two == desk) && d.linesmen > 0);
        L l = new L();
        l.wire = wire;
        l.cells = new ArrayList<>(w.cells);
        l.end = w.two;
        if (w.two == desk) {
            java.util.Collections.reverse(l.cells);
            l.end = w.one;
        }
        l.pace = l.cells.stream().mapToInt(this::pace).toArray();
        l.until = minute + l.pace[0];
        men.add(l);
        return --d.linesmen;
    }

    public int move(int desk, int cell) {
        deskNumbers(desk);
        cells(cell);
        D d = desks.get(desk);
        argument(d.cell != cell);
        d.cell = cell;
        d.moves++;
        int dead = 0;
        for (W w : wires) {
            if ((w.one == desk || w.two == desk) && !w.dead) {
                w.dead = true;
                dead++;
            }
        }
        return dead;
    }

    public int birds(int desk, int home, int many) {
        deskNumbers(desk, home);
        argument(desk != home && in(many, 0, 9));
        int old = desks.get(desk).birds[home];
        desks.get(desk).birds[home] = many;
        desks.get(desk).stamps[home] = desks.get(home).moves;
        return old;
    }

    public int write(int from, int to, int rank, int words, int code, boolean isOrder, int value) {
        deskNumbers(from, to);
        argument(from != to && in(rank, 0, 2) && in(words, 1, 99) && in(code, 0, 1) && in(value, -99, 99));
        state(messages.size() < 24);
        M m = new M();
        m.from = m.at = from;
        m.to = to;
        m.rank = rank;
        m.words = words;
        m.code = code;
        m.order = isOrder;
        m.value = isOrder ? value : desks.get(from).state;
        m.origin = minute;
        m.book = code == 0 ? 0 : desks.get(from).book;
        messages.add(m);
        return messages.size() - 1;
    }

    private void again(M old) {
        if (messages.size() >= 24) { return; }
        int number = write(old.from, old.to, old.rank, old.words, old.code, true, old.value);
        messages.get(number).order = old.order;
        messages.get(number).origin = old.origin;
    }

    public int fly(int message) {
        index(in(message, 0, messages.size() - 1));
        M m = messages.get(message);
        D here = desks.get(m.at);
        state(m.st == 0 && !night() && here.birds[m.to] > 0);
        here.birds[m.to]--;
        m.st = 1;
        m.means = 4;
        m.next = m.to;
        m.stamp = here.stamps[m.to];
        m.due = minute + steps(here.cell, desks.get(m.to).cell) + 1;
        return m.due - minute;
    }

    public int turn(int desk) {
        deskNumbers(desk);
        return desks.get(desk).book = desks.get(desk).book % 9 + 1;
    }

    public int capture(int book) {
        argument(in(book, 1, 9));
        captured.add(book);
        return captured.stream().mapToInt(b -> 1 << b).sum();
    }

    public int post(int cell) {
        index(in(cell, -1, 63));
        int old = post;
        post = cell;
        return old;
    }

    public int jam(int minutes) {
        argument(in(minutes, 0, 240));
        int old = jamLeft();
        jamEnd = minute + minutes;
        return old;
    }

    public int call() { return ++lady; }

    // ---- time

    public int pass(int minutes) {
        argument(in(minutes, 1, 240));
        state(minute + minutes <= 2880);
        for (int k = 0; k < minutes; k++) {
            minute++;
            for (int d = 0; d < desks.size(); d++) {
                int more = desks.get(d).battery + (going(2, d) > 0 ? -1 : 1);
                desks.get(d).battery = Math.min(60, Math.max(0, more));
            }
            walkLinesmen();
            for (int m = 0; m < messages.size(); m++) {
                if (messages.get(m).st == 1) { further(messages.get(m)); }
            }
            for (int d = 0; d < desks.size(); d++) { sendAll(d); }
            keepDiary();
        }
        return minute;
    }

    private void walkLinesmen() {
        for (L l : new ArrayList<>(men)) {
            if (l.until > minute) { continue; }
            W w = wires.get(l.wire);
            if (l.mending) {
                w.broken.remove(l.cells.get(l.place));
                l.mending = false;
            } else if (w.broken.contains(l.cells.get(l.place))) {
                l.mending = true;
                l.until = minute + 10;
                continue;
            }
            l.place++;
            if (l.place == l.cells.size()) {
                men.remove(l);
                desks.get(l.end).linesmen++;
            } else {
                l.until = minute + l.pace[l.place];
            }
        }
    }

    private void further(M m) {
        D here = desks.get(m.at), there = desks.get(m.next);
        boolean kept = m.means == 0 && !wires.get(m.wire).whole()
                || m.means == 1 && !lampReach(here.cell, there.cell)
                || m.means == 2 && (jamLeft() > 0 || here.battery == 0);
        if (kept) {
            m.st = 0;
        } else if (m.due == minute) {
            if (m.means == 3 && there.cell != m.cells.get(m.cells.size() - 1)) {
                m.st = 3;
                runnersLost++;
                return;
            }
            there.runners += m.means == 3 ? 1 : 0;
            if (m.means == 4 && there.moves != m.stamp) {
                m.st = 3;
            } else if (m.next != m.to) {
                m.st = 0;
                m.at = m.next;
            } else {
                comes(m, there);
            }
        }
    }

    private void comes(M m, D there) {
        m.came = minute;
        m.st = m.code == 1 && m.book != there.book ? 4 : 2;
        if (m.st == 4) {
            again(m);
        } else if (m.order) {
            boolean isLate = there.lastOrder >= m.origin;
            there.late += isLate ? 1 : 0;
            there.done += isLate ? 0 : 1;
            there.state = isLate ? there.state : m.value;
            there.lastOrder = Math.max(there.lastOrder, m.origin);
        } else if (there.believed[m.from] < 0 || messages.get(there.believed[m.from]).origin < m.origin) {
            there.believed[m.from] = messages.indexOf(m);
        }
    }

    private void sendAll(int desk) {
        List<M> waiting = new ArrayList<>(messages);
        waiting.removeIf(m -> m.st != 0 || m.at != desk);
        waiting.sort(Comparator.<M>comparingInt(m -> m.rank).thenComparingInt(m -> m.origin));
        for (M m : waiting) { send(m, means(m)); }
    }

    private int means(M m) {
        D here = desks.get(m.at), goal = desks.get(m.to);
        List<Integer> way = way(m.at, m.to, -1);
        if (way != null && carriedBy(wireOnWay(m.at, way.get(1))) < 0 && going(0, m.at) < here.cords) { return 0; }
        if (lampReach(here.cell, goal.cell) && going(1, m.at) == 0) { return 1; }
        if (here.set && goal.set && m.rank != 2 && going(2, -1) == 0 && here.battery > 0 && jamLeft() == 0) {
            return 2;
        }
        return way == null && here.runners > 0 ? 3 : -1;
    }

    private void send(M m, int means) {
        if (means < 0) { return; }
        D here = desks.get(m.at);
        m.st = 1;
        m.means = means;
        m.next = m.to;
        if (means == 0) {
            m.next = way(m.at, m.to, -1).get(1);
            m.wire = wireOnWay(m.at, m.next);
            m.due = minute + (m.words / 20 + 1) * (m.code + 1);
            m.heard |= hearsWire(wires.get(m.wire));
        } else if (means == 1) {
            m.due = minute + m.words / 8 + 1;
            m.heard |= hearsLamp(m.at);
        } else if (means == 2) {
            m.due = minute + m.words / 10 + 1;
            m.heard = true;
        } else {
            here.runners--;
            m.cells = path(here.cell, desks.get(m.to).cell);
            m.enters = new int[m.cells.size()];
            m.leaves = new int[m.cells.size()];
            m.leaves[0] = minute;
            for (int k = 1; k < m.cells.size(); k++) {
                m.enters[k] = m.leaves[k - 1];
                m.leaves[k] = m.enters[k] + pace(m.cells.get(k));
            }
            m.due = Math.max(minute + 1, m.leaves[m.cells.size() - 1]);
        }
    }

    // ---- what is asked

    public int ofCell(int cell, int what) {
        cells(cell);
        argument(in(what, 0, 5));
        int through = 0, broken = 0, at = 0;
        for (W w : wires) {
            through += !w.dead && w.cells.contains(cell) ? 1 : 0;
            broken += !w.dead && w.broken.contains(cell) ? 1 : 0;
        }
        for (D d : desks) { at += d.cell == cell ? 1 : 0; }
        return new int[] {height[cell], sort[cell], Math.max(0, smokeEnd[cell] - minute), through, broken, at}[what];
    }

    public int course(int from, int to, int nth) {
        cells(from, to);
        argument(nth >= 0);
        List<Integer> all = path(from, to);
        return nth < all.size() ? all.get(nth) : -1;
    }

    public int ofDesk(int desk, int what) {
        deskNumbers(desk);
        argument(in(what, 0, 13));
        D d = desks.get(desk);
        int waiting = (int) messages.stream().filter(m -> m.st == 0 && m.at == desk).count();
        int known = (int) messages.stream().filter(m -> m.st == 2 && m.to == desk).count();
        int garbled = (int) messages.stream().filter(m -> m.st == 4 && m.to == desk).count();
        return new int[] {d.cell, d.cords, d.cords - going(0, desk), d.runners, d.linesmen, d.set ? d.battery : -1,
            d.state, d.book, waiting, d.done, d.late, known, garbled, d.lastOrder}[what];
    }

    public int ofBirds(int desk, int home) {
        deskNumbers(desk, home);
        return desks.get(desk).birds[home];
    }

    public int ofWire(int wire, int what) {
        index(in(wire, 0, wires.size() - 1));
        argument(in(what, 0, 7));
        W w = wires.get(wire);
        int onIt = (int) men.stream().filter(l -> l.wire == wire).count();
        return new int[] {w.one, w.two, w.cells.size(), w.broken.size(), w.buried.size(), w.dead ? 1 : 0,
            carriedBy(wire), onIt}[what];
    }

    public int ofMessage(int message, int what) {
        index(in(message, 0, messages.size() - 1));
        argument(in(what, 0, 14));
        M m = messages.get(message);
        return new int[] {m.from, m.to, m.rank, m.words, m.code, m.order ? 1 : 0, m.value, m.origin, m.st, m.at,
            m.means, m.st == 1 ? m.due - minute : 0, m.came, read(m) ? 2 : m.heard ? 1 : 0, m.book}[what];
    }

    public int belief(int desk, int about, int what) {
        deskNumbers(desk, about);
        argument(in(what, 0, 2));
        if (desk == about) { return new int[] {desks.get(desk).state, minute, 1}[what]; }
        int by = desks.get(desk).believed[about];
        if (by < 0) { return new int[] {0, -1, 0}[what]; }
        M m = messages.get(by);
        return new int[] {m.value, m.origin, m.value == desks.get(about).state ? 1 : 0}[what];
    }

    public int diary(int desk, int about, int when) {
        deskNumbers(desk, about);
        argument(desk != about && in(when, 0, minute));
        return diaries.get(when)[desk][about];
    }

    public double right(int desk) {
        deskNumbers(desk);
        if (desks.size() == 1) { return 1.0; }
        double many = 0;
        for (int other = 0; other < desks.size(); other++) {
            many += other == desk ? 0 : belief(desk, other, 2);
        }
        return many / (desks.size() - 1);
    }

    public int field(int what) {
        argument(in(what, 0, 16));
        int heardOnes = (int) messages.stream().filter(m -> m.heard).count();
        int readOnes = (int) messages.stream().filter(this::read).count();
        return new int[] {minute, desks.size(), wires.size(), messages.size(), count(0), count(1), count(2), count(3),
            count(4), jamLeft(), post, heardOnes, readOnes, night() ? 1 : 0, men.size(), runnersLost,
            linesmenLost}[what];
    }

    public int route(int from, int to) {
        deskNumbers(from, to);
        List<Integer> way = way(from, to, -1);
        return way == null ? -1 : way.size() == 1 ? to : way.get(1);
    }

    public String tell(int message) {
        index(in(message, 0, messages.size() - 1));
        M m = messages.get(message);
        String[] by = {"wire", "lamp", "radio", "runner", "bird"};
        String end = m.st == 0 ? "waits at " + m.at : m.st == 1 ? "by " + by[m.means] + " to " + m.next
            : m.st == 2 ? "came" : m.st == 3 ? "lost" : "garbled";
        return message + ": " + (m.order ? "order" : "report") + " " + m.from + ">" + m.to + " " + end;
    }

    public int would(int message) {
        index(in(message, 0, messages.size() - 1));
        M m = messages.get(message);
        return m.st != 0 ? -2 : means(m);
    }

    public int delay(int from, int to, int words, int code) {
        deskNumbers(from, to);
        argument(from != to && in(words, 1, 99) && in(code, 0, 1));
        List<Integer> way = way(from, to, -1);
        return way == null ? -1 : (way.size() - 1) * ((words / 20 + 1) * (code + 1));
    }

    public int best(int desk) {
        deskNumbers(desk);
        List<int[]> all = new ArrayList<>();
        for (int c = 0; c < 64; c++) {
            int seen = 0;
            for (int other = 0; other < desks.size(); other++) {
                seen += other != desk && lampReach(c, desks.get(other).cell) ? 1 : 0;
            }
            if (sort[c] != 3) { all.add(new int[] {c, -seen, steps(c, desks.get(desk).cell)}); }
        }
        all.sort(Comparator.<int[]>comparingInt(x -> x[1]).thenComparingInt(x -> x[2]).thenComparingInt(x -> x[0]));
        return all.isEmpty() ? -1 : all.get(0)[0];
    }

    public int heard(int desk) {
        deskNumbers(desk);
        boolean isWire = wires.stream().anyMatch(w -> (w.one == desk || w.two == desk) && w.whole() && hearsWire(w));
        return (isWire ? 1 : 0) + (hearsLamp(desk) ? 2 : 0) + (desks.get(desk).set ? 4 : 0);
    }

    public int weak(int wire) {
        index(in(wire, 0, wires.size() - 1));
        int pairs = 0;
        for (int a = 0; a < desks.size(); a++) {
            for (int b = a + 1; b < desks.size(); b++) {
                pairs += way(a, b, -1) != null && way(a, b, wire) == null ? 1 : 0;
            }
        }
        return pairs;
    }

    public boolean isSound() {
        int runners = runnersLost + going(3, -1), linesmen = linesmenLost + men.size();
        for (D d : desks) {
            runners += d.runners;
            linesmen += d.linesmen;
        }
        return runners == runnersTold && linesmen == linesmenTold;
    }

    public long digest() {
        List<Long> all = new ArrayList<>();
        for (int k = 0; k <= 16; k++) { all.add((long) field(k)); }
        for (int d = 0; d < desks.size(); d++) {
            for (int k = 0; k <= 13; k++) { all.add((long) ofDesk(d, k)); }
            all.add((long) (64 * right(d)));
            all.add((long) heard(d));
            all.add((long) best(d));
            for (int e = 0; e < desks.size(); e++) {
                all.add((long) route(d, e));
                all.add((long) ofBirds(d, e));
                for (int k = 0; k <= 2; k++) { all.add((long) belief(d, e, k)); }
            }
        }
        for (int w = 0; w < wires.size(); w++) {
            for (int k = 0; k <= 7; k++) { all.add((long) ofWire(w, k)); }
            all.add((long) weak(w));
        }
        for (int m = 0; m < messages.size(); m++) {
            for (int k = 0; k <= 14; k++) { all.add((long) ofMessage(m, k)); }
            all.add((long) would(m));
        }
        all.add(isSound() ? 1L : 0L);
        long d = 58262;
        for (long v : all) { d = d * 31 + v; }
        return d;
    }
}
