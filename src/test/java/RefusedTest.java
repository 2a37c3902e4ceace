import java.util.ArrayList;
import java.util.List;

/**
 * Each argument's last good value and the first wrong one, on both sides, and what lies far beyond; of several wrong
 * arguments the exception that is named first; and that what is refused changes nothing.
 */
public final class RefusedTest {
    private static final int MOST = 9999;

    /** A method of the face with its arguments, all whole numbers. */
    private interface Call {
        void on(Fieldwire x, int[] arguments);
    }

    /** What an argument has to be; if not, this is thrown. */
    private record Bound(int low, int high, boolean isIndex) {
    }

    /** A method, arguments that are allowed, and their bounds. */
    private record Row(String name, Call call, int[] good, Bound[] bounds) {
        String with(int[] arguments) {
            StringBuilder told = new StringBuilder(name).append('(');
            for (int k = 0; k < arguments.length; k++) {
                told.append(k == 0 ? "" : ", ").append(arguments[k]);
            }
            return told.append(')').toString();
        }
    }

    private static final Bound CELL = index(63);
    private static final Bound DESK = index(4);
    private static final Bound WIRE = index(3);
    private static final Bound MESSAGE = index(9);

    public static void main(String[] args) {
        for (Row row : rows()) {
            allowed(row);
            refused(row);
            refusedByEach(row);
        }
        ofNothing();
        ofAFullObject();
        sameDesks();
        goesOnAsItsTwin();
        Due.end("RefusedTest");
    }

    private static Bound index(int high) {
        return new Bound(0, high, true);
    }

    private static Bound from(int low, int high) {
        return new Bound(low, high, false);
    }

    private static Row row(String name, Call call, int[] good, Bound... bounds) {
        return new Row(name, call, good, bounds);
    }

    private static int[] with(int... arguments) {
        return arguments;
    }

    private static List<Row> rows() {
        List<Row> rows = new ArrayList<>();
        rows.add(row("ground to 63", (x, a) -> x.ground(a[0], 63, a[1], a[2]), with(0, 0, 0), CELL, from(0, 9), from(0, 3)));
        rows.add(row("ground from 0", (x, a) -> x.ground(0, a[0], a[1], a[2]), with(0, 0, 0), CELL, from(0, 9), from(0, 3)));
        rows.add(row("desk", (x, a) -> x.desk(a[0], a[1], a[2], a[3], true), with(0, 1, 0, 0), CELL, from(1, 4), from(0, 9),
                from(0, 9)));
        rows.add(row("state", (x, a) -> x.state(a[0], a[1]), with(0, 0), DESK, from(-99, 99)));
        rows.add(row("wire", (x, a) -> x.wire(a[0], a[1], true), with(2, 1), DESK, DESK));
        rows.add(row("shell", (x, a) -> x.shell(a[0]), with(0), CELL));
        rows.add(row("mend WIRE 0 from", (x, a) -> x.mend(a[0], 0), with(0), DESK));
        rows.add(row("mend from DESK 0", (x, a) -> x.mend(0, a[0]), with(0), WIRE));
        rows.add(row("move", (x, a) -> x.move(a[0], a[1]), with(0, 1), DESK, CELL));
        rows.add(row("birds", (x, a) -> x.birds(a[0], a[1], a[2]), with(3, 2, 0), DESK, DESK, from(0, 9)));
        rows.add(row("write an order", (x, a) -> x.write(a[0], a[1], a[2], a[3], a[4], true, a[5]), with(3, 2, 0, 1, 0, 0),
                DESK, DESK, from(0, 2), from(1, 99), from(0, 1), from(-99, 99)));
        rows.add(row("write a report", (x, a) -> x.write(3, 2, a[0], a[1], a[2], false, a[3]), with(0, 1, 0, 0),
                from(0, 2), from(1, 99), from(0, 1), from(-99, 99)));
        rows.add(row("fly", (x, a) -> x.fly(a[0]), with(0), MESSAGE));
        rows.add(row("turn", (x, a) -> x.turn(a[0]), with(0), DESK));
        rows.add(row("capture", (x, a) -> x.capture(a[0]), with(1), from(1, 9)));
        rows.add(row("post", (x, a) -> x.post(a[0]), with(0), new Bound(-1, 63, true)));
        rows.add(row("jam", (x, a) -> x.jam(a[0]), with(0), from(0, 240)));
        rows.add(row("pass", (x, a) -> x.pass(a[0]), with(1), from(1, 240)));
        rows.addAll(askedRows());
        return rows;
    }

    private static List<Row> askedRows() {
        List<Row> rows = new ArrayList<>();
        rows.add(row("ofCell", (x, a) -> x.ofCell(a[0], a[1]), with(0, 0), CELL, from(0, 5)));
        rows.add(row("course", (x, a) -> x.course(a[0], a[1], a[2]), with(0, 0, 0), CELL, CELL,
                from(0, Integer.MAX_VALUE)));
        rows.add(row("sees", (x, a) -> x.sees(a[0], a[1]), with(0, 0), CELL, CELL));
        rows.add(row("ofDesk", (x, a) -> x.ofDesk(a[0], a[1]), with(0, 0), DESK, from(0, 13)));
        rows.add(row("ofBirds", (x, a) -> x.ofBirds(a[0], a[1]), with(0, 0), DESK, DESK));
        rows.add(row("ofWire", (x, a) -> x.ofWire(a[0], a[1]), with(0, 0), WIRE, from(0, 7)));
        rows.add(row("ofMessage", (x, a) -> x.ofMessage(a[0], a[1]), with(0, 0), MESSAGE, from(0, 14)));
        rows.add(row("belief", (x, a) -> x.belief(a[0], a[1], a[2]), with(0, 0, 0), DESK, DESK, from(0, 2)));
        rows.add(row("diary", (x, a) -> x.diary(a[0], a[1], a[2]), with(3, 2, 0), DESK, DESK, from(0, 400)));
        rows.add(row("right", (x, a) -> x.right(a[0]), with(0), DESK));
        rows.add(row("field", (x, a) -> x.field(a[0]), with(0), from(0, 16)));
        rows.add(row("route", (x, a) -> x.route(a[0], a[1]), with(0, 0), DESK, DESK));
        rows.add(row("tell", (x, a) -> x.tell(a[0]), with(0), MESSAGE));
        rows.add(row("would", (x, a) -> x.would(a[0]), with(0), MESSAGE));
        rows.add(row("delay", (x, a) -> x.delay(a[0], a[1], a[2], a[3]), with(3, 2, 1, 0), DESK, DESK, from(1, 99),
                from(0, 1)));
        rows.add(row("best", (x, a) -> x.best(a[0]), with(0), DESK));
        rows.add(row("heard", (x, a) -> x.heard(a[0]), with(0), DESK));
        rows.add(row("weak", (x, a) -> x.weak(a[0]), with(0), WIRE));
        return rows;
    }

    /**
     * Five DESKS, four WIRES, ten messages at MINUTE 400, some under way. The first and the last one of them WAIT where
     * a BIRD is; the first and the last DESK can mend WIRE 0, and DESK 0 the first and the last WIRE.
     */
    private static Fieldwire some() {
        Fieldwire x = new Fieldwire();
        x.ground(0, 63, 0, 1);
        x.desk(9, 4, 0, 3, true);
        x.desk(54, 1, 0, 0, false);
        x.desk(14, 1, 0, 0, false);
        x.desk(49, 1, 9, 0, false);
        x.desk(36, 2, 1, 2, true);
        x.wire(0, 4, false);
        x.wire(4, 3, false);
        x.wire(3, 4, true);
        x.wire(0, 3, false);
        Made.pass(x, 390);
        Made.report(x, 0, 1, 1);
        x.write(0, 4, 0, 50, 1, true, 7);
        x.write(4, 0, 0, 30, 0, false, 0);
        x.write(4, 3, 1, 99, 1, false, 0);
        x.write(3, 0, 1, 9, 0, false, 0);
        x.write(0, 3, 0, 99, 1, true, -3);
        x.write(3, 4, 2, 99, 1, false, 0);
        x.write(4, 1, 2, 99, 0, false, 0);
        x.write(4, 0, 0, 99, 1, false, 0);
        Made.report(x, 2, 3, 1);
        x.turn(2);
        x.shell(41);
        x.birds(0, 1, 9);
        x.birds(2, 3, 9);
        x.post(60);
        x.capture(2);
        x.jam(60);
        x.mend(4, 1);
        x.pass(10);
        x.shell(45);
        return x;
    }

    private static Class<? extends RuntimeException> thrown(boolean isIndex) {
        return isIndex ? IndexOutOfBoundsException.class : IllegalArgumentException.class;
    }

    /** The lowest and the highest value of each argument, the others as they are. */
    private static void allowed(Row row) {
        for (int k = 0; k < row.bounds().length; k++) {
            for (int value : new int[] {row.bounds()[k].low(), row.bounds()[k].high()}) {
                int[] arguments = row.good().clone();
                arguments[k] = value;
                String answer = "answers";
                try {
                    row.call().on(some(), arguments);
                } catch (RuntimeException e) {
                    answer = "throws " + e;
                }
                Due.is(row.with(arguments), answer, "answers");
            }
        }
    }

    private static int[] wrongOf(Bound bound) {
        if (bound.high() == Integer.MAX_VALUE) {
            return new int[] {bound.low() - 1, Integer.MIN_VALUE};
        }
        return new int[] {bound.low() - 1, bound.high() + 1, -MOST, MOST, Integer.MIN_VALUE, Integer.MAX_VALUE};
    }

    private static void refused(Row row) {
        Fieldwire x = some();
        for (int k = 0; k < row.bounds().length; k++) {
            for (int value : wrongOf(row.bounds()[k])) {
                int[] arguments = row.good().clone();
                arguments[k] = value;
                Due.no(row.with(arguments), thrown(row.bounds()[k].isIndex()), x, () -> row.call().on(x, arguments));
            }
        }
    }

    /** Each set of wrong arguments: one wrong index is enough for its exception, whatever the others are. */
    private static void refusedByEach(Row row) {
        Fieldwire x = some();
        int many = row.bounds().length;
        for (int set = 1; set < 1 << many; set++) {
            int[] arguments = row.good().clone();
            boolean isIndex = false;
            for (int k = 0; k < many; k++) {
                if ((set >> k & 1) == 1) {
                    Bound bound = row.bounds()[k];
                    boolean isLow = k % 2 == 0 || bound.high() == Integer.MAX_VALUE;
                    arguments[k] = isLow ? bound.low() - 1 : bound.high() + 1;
                    isIndex |= bound.isIndex();
                }
            }
            Due.no(row.with(arguments), thrown(isIndex), x, () -> row.call().on(x, arguments));
        }
    }

    /** A new object: there is no DESK, WIRE or message 0, and that is told ahead of all else. */
    private static void ofNothing() {
        for (Row row : rows()) {
            for (int k = 0; k < row.bounds().length; k++) {
                Bound bound = row.bounds()[k];
                if (bound == DESK || bound == WIRE || bound == MESSAGE) {
                    Fieldwire x = new Fieldwire();
                    int[] wrong = row.good().clone();
                    for (int other = 0; other < wrong.length; other++) {
                        wrong[other] = row.bounds()[other].isIndex() ? wrong[other] : row.bounds()[other].low() - 1;
                    }
                    Due.noIndex("nothing: " + row.with(row.good()), x, () -> row.call().on(x, row.good()));
                    Due.noIndex("nothing: " + row.with(wrong), x, () -> row.call().on(x, wrong));
                }
            }
        }
    }

    /** All is full and at its end: what is wrong besides is told first. */
    private static void ofAFullObject() {
        Fieldwire x = Made.far(6);
        for (int k = 0; k < 10; k++) {
            x.wire(0, 1, false);
        }
        x.move(0, 1);
        for (int k = 0; k < 24; k++) {
            Made.report(x, 0, 1, 1);
        }
        Made.pass(x, 2880);
        Due.noState("desk", x, () -> x.desk(0, 1, 0, 0, true));
        Due.noArgument("desk, no cords", x, () -> x.desk(0, 0, 0, 0, true));
        Due.noIndex("desk, no cords, nowhere", x, () -> x.desk(64, 0, 0, 0, true));
        Due.noState("wire", x, () -> x.wire(0, 1, true));
        Due.noArgument("wire to itself", x, () -> x.wire(0, 0, true));
        Due.noIndex("wire to itself, which is not there", x, () -> x.wire(6, 6, true));
        Due.noState("write", x, () -> x.write(0, 1, 0, 1, 0, true, 0));
        Due.noArgument("write to itself", x, () -> x.write(0, 0, 0, 1, 0, true, 0));
        Due.noArgument("write, value 100", x, () -> x.write(0, 1, 0, 1, 0, true, 100));
        Due.noIndex("write, value 100, to nobody", x, () -> x.write(0, 6, 0, 1, 0, true, 100));
        Due.noState("mend a dead wire, without men", x, () -> x.mend(0, 9));
        Due.noState("mend a dead wire at no end of it", x, () -> x.mend(2, 9));
        Due.noIndex("mend no wire, without men", x, () -> x.mend(0, 10));
        Due.noIndex("mend a dead wire from nowhere", x, () -> x.mend(6, 9));
        Due.noState("fly", x, () -> x.fly(23));
        Due.noIndex("fly by night with nothing", x, () -> x.fly(24));
        Due.noState("pass(1)", x, () -> x.pass(1));
        Due.noState("pass(240)", x, () -> x.pass(240));
        Due.noArgument("pass(0)", x, () -> x.pass(0));
        Due.noArgument("pass(241)", x, () -> x.pass(241));
        Due.noArgument("pass(2147483647)", x, () -> x.pass(Integer.MAX_VALUE));
        Due.is("field(0)", x.field(0), 2880);
    }

    /** "Throws IllegalArgumentException if both are the same": also with what else is wrong, and behind no such DESK. */
    private static void sameDesks() {
        Fieldwire x = some();
        for (int desk = 0; desk <= 4; desk++) {
            int d = desk;
            Due.noArgument("wire", x, () -> x.wire(d, d, false));
            Due.noArgument("birds", x, () -> x.birds(d, d, 1));
            Due.noArgument("birds, 10", x, () -> x.birds(d, d, 10));
            Due.noArgument("write", x, () -> x.write(d, d, 0, 1, 0, true, 0));
            Due.noArgument("write, no words", x, () -> x.write(d, d, 0, 0, 0, true, 0));
            Due.noArgument("diary", x, () -> x.diary(d, d, 0));
            Due.noArgument("diary ahead of now", x, () -> x.diary(d, d, 401));
            Due.noArgument("delay", x, () -> x.delay(d, d, 1, 0));
            Due.noArgument("delay, no words", x, () -> x.delay(d, d, 0, 0));
            Due.is("route to itself", x.route(d, d), d);
            Due.is("birds of its own", x.ofBirds(d, d), 0);
        }
        for (int none : new int[] {-1, 5}) {
            Due.noIndex("wire", x, () -> x.wire(none, none, false));
            Due.noIndex("birds", x, () -> x.birds(none, none, 10));
            Due.noIndex("write", x, () -> x.write(none, none, 3, 0, 2, true, 100));
            Due.noIndex("diary", x, () -> x.diary(none, none, -1));
            Due.noIndex("delay", x, () -> x.delay(none, none, 0, 2));
            Due.noIndex("route", x, () -> x.route(none, none));
            Due.noIndex("ofBirds", x, () -> x.ofBirds(none, none));
            Due.noIndex("belief", x, () -> x.belief(none, none, 3));
        }
    }

    /** "A method that throws an exception changes nothing": afterwards all goes on as in an object that refused nothing. */
    private static void goesOnAsItsTwin() {
        Fieldwire x = some();
        Fieldwire twin = some();
        for (int minute = 0; minute < 120; minute++) {
            for (Row row : rows()) {
                Bound bound = row.bounds()[minute % row.bounds().length];
                int[] arguments = row.good().clone();
                arguments[minute % arguments.length] = bound.low() - 1;
                boolean isRefused = false;
                try {
                    row.call().on(x, arguments);
                } catch (RuntimeException e) {
                    isRefused = true;
                }
                Due.is(row.with(arguments) + " is refused", isRefused, true);
            }
            x.pass(1);
            twin.pass(1);
            Due.is("its twin after " + minute, x.digest(), twin.digest());
        }
        Due.is("its twin at the end", Due.all(x), Due.all(twin));
        Due.is("calls", x.call(), twin.call());
        Due.is("books", x.capture(9), twin.capture(9));
        Due.is("post", x.post(-1), twin.post(-1));
        for (int minute = 0; minute <= x.field(0); minute++) {
            Due.is("diary", x.diary(4, 0, minute), twin.diary(4, 0, minute));
        }
    }
}
