/** Promises 18 to 37: what is asked, and what would be. */
public final class AskedTest {
    public static void main(String[] args) {
        ofCell();
        course();
        sees();
        ofDesk();
        ofWireAndMessageBounds();
        belief();
        diary();
        diaryOfGarbled();
        right();
        field();
        night();
        route();
        routeByNumbers();
        tell();
        would();
        delay();
        best();
        heard();
        weak();
        digest();
        isSound();
        Due.end("AskedTest");
    }

    private static Fieldwire desks(int... cells) {
        Fieldwire x = new Fieldwire();
        for (int cell : cells) {
            x.desk(cell, 2, 3, 4, false);
        }
        return x;
    }

    private static void ofCell() {
        Fieldwire x = desks(0, 2, 0);
        x.ground(1, 1, 7, 3);
        x.wire(0, 1, false);
        x.wire(2, 1, false);
        x.wire(1, 0, true);
        x.shell(1);
        int[] due = {7, 3, 5, 3, 2, 0};
        for (int what = 0; what <= 5; what++) {
            Due.is("ofCell(1, " + what + ")", x.ofCell(1, what), due[what]);
        }
        Due.is("desks at 0", x.ofCell(0, 5), 2);
        x.move(0, 9);
        Due.is("those of a desk that moved are dead", x.ofCell(1, 3), 1);
        Due.is("broken and not dead", x.ofCell(1, 4), 1);
        Due.is("desks at 0", x.ofCell(0, 5), 1);
        Due.noIndex("ofCell(-1, 6)", x, () -> x.ofCell(-1, 6));
        Due.noIndex("ofCell(64, 0)", x, () -> x.ofCell(64, 0));
        Due.noArgument("ofCell(0, 6)", x, () -> x.ofCell(0, 6));
        Due.noArgument("ofCell(0, -1)", x, () -> x.ofCell(0, -1));
    }

    private static void course() {
        Fieldwire x = new Fieldwire();
        int[][] due = {{0, 21, 0, 9, 18, 19, 20, 21}, {21, 0, 21, 12, 3, 2, 1, 0}, {56, 7, 56, 49, 42, 35, 28, 21, 14, 7},
            {7, 57, 7, 14, 21, 28, 35, 42, 49, 57}, {57, 7, 57, 50, 43, 36, 29, 22, 15, 7}, {5, 5, 5}, {8, 11, 8, 9, 10, 11},
            {58, 34, 58, 50, 42, 34}, {23, 16, 23, 22, 21, 20, 19, 18, 17, 16}};
        for (int[] row : due) {
            for (int nth = 0; nth < row.length; nth++) {
                int want = nth + 2 < row.length ? row[nth + 2] : -1;
                Due.is("course(" + row[0] + ", " + row[1] + ", " + nth + ")", x.course(row[0], row[1], nth), want);
            }
            Due.is("far behind the last one", x.course(row[0], row[1], Integer.MAX_VALUE), -1);
        }
        Due.noIndex("course(-1, 0, -1)", x, () -> x.course(-1, 0, -1));
        Due.noIndex("course(0, 64, -1)", x, () -> x.course(0, 64, -1));
        Due.noIndex("course(64, 0, 0)", x, () -> x.course(64, 0, 0));
        Due.noIndex("course(0, -1, 0)", x, () -> x.course(0, -1, 0));
        Due.noArgument("course(0, 0, -1)", x, () -> x.course(0, 0, -1));
    }

    private static void sees() {
        Fieldwire x = new Fieldwire();
        Due.is("far", x.sees(0, 63), true);
        Due.is("itself", x.sees(5, 5), true);
        x.ground(3, 3, 1, 0);
        Due.is("a height", x.sees(0, 7), false);
        Due.is("from the other side", x.sees(7, 0), false);
        x.ground(7, 7, 1, 0);
        Due.is("one end is as high", x.sees(0, 7), true);
        x.ground(0, 0, 1, 1);
        x.ground(7, 7, 0, 1);
        Due.is("the other end is, and both ends are woods", x.sees(0, 7), true);
        x.ground(3, 3, 0, 3);
        Due.is("over water", x.sees(0, 7), true);
        x.ground(3, 3, 0, 2);
        Due.is("over a trench", x.sees(0, 7), true);
        x.ground(3, 3, 0, 1);
        Due.is("through a wood", x.sees(0, 7), false);
        x.ground(0, 63, 0, 0);
        x.shell(3);
        Due.is("through smoke", x.sees(0, 7), false);
        Due.is("in smoke", x.sees(3, 4), false);
        Due.is("into smoke", x.sees(2, 3), false);
        Due.is("itself in smoke", x.sees(3, 3), false);
        Due.is("beside smoke", x.sees(8, 15), true);
        // the course of the smaller number counts: 0, 9, 18, 19, and not 19, 10, 1, 0
        Fieldwire y = new Fieldwire();
        y.ground(10, 10, 1, 1);
        y.ground(1, 1, 1, 1);
        Due.is("sees(0, 19)", y.sees(0, 19), true);
        Due.is("sees(19, 0)", y.sees(19, 0), true);
        y.ground(9, 9, 0, 1);
        Due.is("sees(0, 19)", y.sees(0, 19), false);
        Due.is("sees(19, 0)", y.sees(19, 0), false);
        Due.noIndex("sees(-1, 0)", x, () -> x.sees(-1, 0));
        Due.noIndex("sees(0, -1)", x, () -> x.sees(0, -1));
        Due.noIndex("sees(64, 0)", x, () -> x.sees(64, 0));
        Due.noIndex("sees(0, 64)", x, () -> x.sees(0, 64));
    }

    private static void ofDesk() {
        Fieldwire x = desks(0, 63);
        x.wire(0, 1, false);
        x.turn(1);
        x.state(0, 12);
        x.write(1, 0, 0, 1, 0, true, 33);
        x.write(1, 0, 1, 1, 0, true, 34);
        x.write(1, 0, 1, 1, 1, true, 35);
        x.pass(4);
        x.write(0, 1, 2, 99, 0, false, 0);
        x.write(0, 1, 2, 99, 0, false, 0);
        x.pass(1);
        int[] due = {0, 2, 1, 3, 4, -1, 33, 1, 1, 1, 1, 2, 1, 0};
        for (int what = 0; what <= 13; what++) {
            Due.is("ofDesk(0, " + what + ")", x.ofDesk(0, what), due[what]);
        }
        Due.is("ofDesk(1, 7)", x.ofDesk(1, 7), 2);
        Due.is("ofDesk(1, 13)", x.ofDesk(1, 13), -1);
        Due.noIndex("ofDesk(-1, 14)", x, () -> x.ofDesk(-1, 14));
        Due.noIndex("ofDesk(2, 0)", x, () -> x.ofDesk(2, 0));
        Due.noArgument("ofDesk(0, 14)", x, () -> x.ofDesk(0, 14));
        Due.noArgument("ofDesk(0, -1)", x, () -> x.ofDesk(0, -1));
    }

    private static void ofWireAndMessageBounds() {
        Fieldwire x = desks(0, 63);
        Due.noIndex("ofWire(0, 0)", x, () -> x.ofWire(0, 0));
        Due.noIndex("ofMessage(0, 0)", x, () -> x.ofMessage(0, 0));
        x.wire(0, 1, false);
        x.write(0, 1, 0, 1, 0, false, 0);
        Due.noIndex("ofWire(-1, 8)", x, () -> x.ofWire(-1, 8));
        Due.noIndex("ofWire(1, 0)", x, () -> x.ofWire(1, 0));
        Due.noArgument("ofWire(0, 8)", x, () -> x.ofWire(0, 8));
        Due.noArgument("ofWire(0, -1)", x, () -> x.ofWire(0, -1));
        Due.noIndex("ofMessage(-1, 15)", x, () -> x.ofMessage(-1, 15));
        Due.noIndex("ofMessage(1, 0)", x, () -> x.ofMessage(1, 0));
        Due.noArgument("ofMessage(0, 15)", x, () -> x.ofMessage(0, 15));
        Due.noArgument("ofMessage(0, -1)", x, () -> x.ofMessage(0, -1));
    }

    /** Desk 0 with state 5 has reported to desk 1 at minute 10, which came at 12. */
    private static Fieldwire reported() {
        Fieldwire x = desks(0, 63, 56);
        x.wire(0, 1, false);
        x.state(0, 5);
        x.pass(10);
        x.write(0, 1, 0, 1, 0, false, 0);
        x.pass(2);
        return x;
    }

    private static void belief() {
        Fieldwire x = reported();
        int[][] due = {{1, 0, 5, 10, 1}, {0, 1, 0, -1, 0}, {0, 0, 5, 12, 1}, {1, 1, 0, 12, 1}, {1, 2, 0, -1, 0}};
        for (int[] row : due) {
            for (int what = 0; what <= 2; what++) {
                Due.is("belief(" + row[0] + ", " + row[1] + ", " + what + ")", x.belief(row[0], row[1], what),
                        row[2 + what]);
            }
        }
        x.state(0, 6);
        Due.is("not right any more", x.belief(1, 0, 2), 0);
        Due.is("but believed", x.belief(1, 0, 0), 5);
        Due.is("its own state", x.belief(0, 0, 0), 6);
        Due.noIndex("belief(3, 3, 3)", x, () -> x.belief(3, 3, 3));
        Due.noIndex("belief(0, 3, 0)", x, () -> x.belief(0, 3, 0));
        Due.noIndex("belief(-1, 0, 0)", x, () -> x.belief(-1, 0, 0));
        Due.noArgument("belief(0, 0, 3)", x, () -> x.belief(0, 0, 3));
        Due.noArgument("belief(0, 1, -1)", x, () -> x.belief(0, 1, -1));
    }

    private static void diary() {
        Fieldwire x = reported();
        x.write(0, 1, 2, 1, 0, false, 0);
        x.write(0, 1, 2, 1, 0, false, 0);
        x.pass(1);
        x.write(0, 1, 0, 1, 0, false, 0);
        x.pass(4);
        // 3 goes ahead of 2, which is older, and so is never believed
        Due.is("all came", x.ofDesk(1, 11), 4);
        int[] due = {-1, -1, -1, -1, -1, -1, -1, -1, -1, -1, -1, -1, 0, 0, 1, 3, 3, 3};
        for (int minute = 0; minute <= 17; minute++) {
            Due.is("diary(1, 0, " + minute + ")", x.diary(1, 0, minute), due[minute]);
        }
        Due.is("diary(0, 1, 17)", x.diary(0, 1, 17), -1);
        Due.noIndex("diary(3, 3, -1)", x, () -> x.diary(3, 3, -1));
        Due.noIndex("diary(0, -1, 0)", x, () -> x.diary(0, -1, 0));
        Due.noArgument("diary(0, 0, 0)", x, () -> x.diary(0, 0, 0));
        Due.noArgument("diary(0, 1, -1)", x, () -> x.diary(0, 1, -1));
        Due.noArgument("diary(0, 1, 18)", x, () -> x.diary(0, 1, 18));
    }

    /** One that is written again has a greater number than those that are believed behind it. */
    private static void diaryOfGarbled() {
        Fieldwire x = desks(0, 63);
        x.wire(0, 1, false);
        x.turn(0);
        x.write(0, 1, 0, 1, 1, false, 0);
        x.pass(1);
        x.turn(1);
        x.turn(1);
        x.write(0, 1, 2, 1, 0, false, 0);
        x.turn(0);
        x.pass(6);
        int[] due = {-1, -1, -1, -1, -1, 2, 1, 1};
        for (int minute = 0; minute <= 7; minute++) {
            Due.is("diary(1, 0, " + minute + ") of a garbled one", x.diary(1, 0, minute), due[minute]);
        }
    }

    private static void right() {
        Fieldwire x = new Fieldwire();
        Due.noIndex("right(0)", x, () -> x.right(0));
        x.desk(0, 1, 0, 0, false);
        Due.is("without others", x.right(0), 1.0);
        Fieldwire y = reported();
        Due.is("right(1)", y.right(1), 0.5);
        Due.is("right(0)", y.right(0), 0.0);
        y.desk(7, 1, 0, 0, false);
        Due.is("one of 3", y.right(1), 1.0 / 3.0);
        y.state(0, 7);
        Due.is("right by now", y.right(1), 0.0);
        Due.noIndex("right(-1)", y, () -> y.right(-1));
        Due.noIndex("right(4)", y, () -> y.right(4));
    }

    private static void field() {
        Fieldwire x = new Fieldwire();
        x.desk(0, 4, 1, 1, true);
        x.desk(63, 1, 0, 1, true);
        x.desk(7, 1, 0, 0, false);
        x.wire(0, 1, false);
        x.turn(1);
        x.capture(1);
        x.post(3);
        x.write(0, 1, 0, 1, 1, false, 0);
        x.write(0, 1, 0, 1, 0, false, 0);
        x.write(0, 1, 0, 1, 0, false, 0);
        x.write(2, 0, 0, 1, 0, false, 0);
        x.write(0, 2, 0, 1, 0, false, 0);
        x.mend(1, 0);
        x.mend(0, 0);
        x.jam(20);
        x.pass(1);
        x.shell(63);
        x.shell(1);
        x.pass(1);
        // the first one waits (its wire is broken), the runner to 2 is lost
        int[] due = {2, 3, 1, 5, 4, 0, 0, 1, 0, 18, 3, 1, 1, 1, 1, 1, 1};
        for (int what = 0; what <= 16; what++) {
            Due.is("field(" + what + ")", x.field(what), due[what]);
        }
        x.jam(0);
        x.pass(1);
        Due.is("by radio", x.field(5), 1);
        x.pass(3);
        Due.is("garbled", x.field(8), 1);
        Due.is("came", x.field(6), 2);
        Due.is("messages", x.field(3), 6);
        Due.noArgument("field(-1)", x, () -> x.field(-1));
        Due.noArgument("field(17)", x, () -> x.field(17));
    }

    private static void night() {
        Fieldwire x = new Fieldwire();
        for (int minute = 1; minute <= 2880; minute++) {
            x.pass(1);
            int hour = minute / 60 % 24;
            boolean isEdge = minute % 60 == 0 || minute % 60 == 59;
            if (isEdge) {
                Due.is("night at " + minute, x.field(13), hour < 6 || hour > 18 ? 1 : 0);
            }
        }
    }

    private static void route() {
        Fieldwire x = desks(0, 7, 56, 63, 9);
        x.wire(3, 0, false);
        x.wire(0, 1, false);
        x.wire(1, 3, false);
        x.wire(1, 2, false);
        Due.is("the fewest wires", x.route(0, 3), 3);
        Due.is("and back", x.route(3, 0), 0);
        Due.is("route(2, 3)", x.route(2, 3), 1);
        Due.is("itself", x.route(4, 4), 4);
        Due.is("nobody's", x.route(4, 0), -1);
        x.shell(27);
        Due.is("round about", x.route(0, 3), 1);
        x.move(1, 6);
        Due.is("dead", x.route(0, 3), -1);
        Due.is("itself", x.route(1, 1), 1);
        Due.noIndex("route(5, 0)", x, () -> x.route(5, 0));
        Due.noIndex("route(0, 5)", x, () -> x.route(0, 5));
        Due.noIndex("route(-1, 0)", x, () -> x.route(-1, 0));
        Due.noIndex("route(0, -1)", x, () -> x.route(0, -1));
    }

    /** Of ways as long the smallest number of the next desk, not the smallest number of a wire. */
    private static void routeByNumbers() {
        Fieldwire x = desks(0, 7, 56, 63, 9, 18);
        x.wire(0, 3, false);
        x.wire(3, 5, false);
        x.wire(5, 4, false);
        x.wire(4, 0, false);
        x.wire(2, 5, false);
        x.wire(0, 2, false);
        Due.is("0 to 5", x.route(0, 5), 2);
        Due.is("5 to 0", x.route(5, 0), 2);
        x.wire(0, 1, false);
        Due.is("1 to 5", x.route(1, 5), 0);
        Due.is("1 to 3 by 0", x.delay(1, 3, 1, 0), 2);
    }

    private static void tell() {
        Fieldwire x = new Fieldwire();
        x.desk(8, 1, 1, 0, true);
        x.desk(12, 1, 0, 0, true);
        x.desk(63, 1, 0, 0, true);
        for (int k = 0; k < 11; k++) {
            x.write(0, 1, 2, 9, 0, true, k);
        }
        Due.is("tell(10)", x.tell(10), "10: order 0>1 waits at 0");
        x.pass(1);
        Due.is("tell(0)", x.tell(0), "0: order 0>1 by lamp to 1");
        Due.is("tell(1)", x.tell(1), "1: order 0>1 by runner to 1");
        x.write(2, 1, 0, 1, 1, false, 0);
        x.pass(1);
        Due.is("tell(11)", x.tell(11), "11: report 2>1 by radio to 1");
        x.turn(1);
        x.shell(9);
        x.pass(1);
        Due.is("tell(1)", x.tell(1), "1: order 0>1 lost");
        Due.is("tell(0)", x.tell(0), "0: order 0>1 waits at 0");
        Due.is("tell(11)", x.tell(11), "11: report 2>1 garbled");
        Due.noIndex("tell(-1)", x, () -> x.tell(-1));
        Due.noIndex("tell(13)", x, () -> x.tell(13));
    }

    private static void would() {
        Fieldwire x = new Fieldwire();
        x.desk(16, 1, 0, 0, true);
        x.desk(18, 1, 0, 0, true);
        x.write(0, 1, 0, 99, 0, false, 0);
        x.write(0, 1, 1, 99, 0, false, 0);
        x.write(0, 1, 2, 99, 0, false, 0);
        Due.is("each as the first one", x.would(2), 1);
        x.pass(1);
        Due.is("on its way", x.would(0), -2);
        Due.is("by radio", x.ofMessage(1, 10), 2);
        Due.is("by none", x.would(2), -1);
        x.wire(0, 1, false);
        Due.is("by wire", x.would(2), 0);
        x.pass(20);
        Due.is("came", x.would(0), -2);
        Due.noIndex("would(3)", x, () -> x.would(3));
        Due.noIndex("would(-1)", x, () -> x.would(-1));
    }

    private static void delay() {
        Fieldwire x = desks(0, 7, 63, 56);
        x.wire(0, 1, false);
        x.wire(1, 2, false);
        Due.is("delay(0, 1, 1, 0)", x.delay(0, 1, 1, 0), 1);
        Due.is("delay(0, 1, 20, 0)", x.delay(0, 1, 20, 0), 2);
        Due.is("delay(2, 0, 99, 1)", x.delay(2, 0, 99, 1), 20);
        Due.is("delay(0, 3, 1, 0)", x.delay(0, 3, 1, 0), -1);
        x.write(0, 1, 0, 99, 0, false, 0);
        x.pass(1);
        Due.is("whatever is under way", x.delay(0, 2, 19, 0), 2);
        Due.noIndex("delay(4, 4, 0, 2)", x, () -> x.delay(4, 4, 0, 2));
        Due.noIndex("delay(0, -1, 1, 0)", x, () -> x.delay(0, -1, 1, 0));
        Due.noArgument("delay(1, 1, 1, 0)", x, () -> x.delay(1, 1, 1, 0));
        Due.noArgument("delay(0, 1, 0, 0)", x, () -> x.delay(0, 1, 0, 0));
        Due.noArgument("delay(0, 1, 100, 0)", x, () -> x.delay(0, 1, 100, 0));
        Due.noArgument("delay(0, 1, 1, 2)", x, () -> x.delay(0, 1, 1, 2));
        Due.noArgument("delay(0, 1, 1, -1)", x, () -> x.delay(0, 1, 1, -1));
    }

    private static void best() {
        Fieldwire x = desks(0);
        Due.is("alone: where it is", x.best(0), 0);
        x.ground(0, 0, 0, 3);
        Due.is("not a water: the fewest steps, then the smallest number", x.best(0), 1);
        x.ground(0, 63, 0, 3);
        Due.is("all are water", x.best(0), -1);
        Due.noIndex("best(-1)", x, () -> x.best(-1));
        Due.noIndex("best(1)", x, () -> x.best(1));

        Fieldwire y = desks(0, 7, 56);
        Due.is("5 steps from both: row 2 and column 2 at least", y.best(0), 18);
        y.ground(18, 18, 0, 3);
        Due.is("the smallest number of 3 steps", y.best(0), 19);
        y.ground(18, 18, 0, 0);
        y.move(2, 7);
        Due.is("two at one cell count twice", y.best(0), 2);
        y.ground(6, 6, 0, 1);
        Due.is("over a wood one does not see: 9 and beyond go round it", y.best(0), 10);
        Due.is("it does not count itself", y.best(1), 13);
    }

    private static void heard() {
        Fieldwire x = new Fieldwire();
        x.desk(7, 1, 0, 0, false);
        x.desk(63, 1, 0, 0, true);
        x.desk(56, 1, 0, 0, false);
        Due.is("row 0", x.heard(0), 2);
        Due.is("a set", x.heard(1), 4);
        x.wire(1, 2, false);
        x.post(59);
        Due.is("a wire, in sight, a set", x.heard(1), 7);
        Due.is("a wire, in sight", x.heard(2), 3);
        x.shell(59);
        Due.is("broken, and in smoke", x.heard(2), 0);
        x.jam(5);
        Due.is("whether it could send so or not", x.heard(1), 4);
        x.wire(2, 1, true);
        Due.is("a buried one", x.heard(1), 4);
        x.wire(0, 1, false);
        Due.is("a plain one far away", x.heard(1), 4);
        Due.noIndex("heard(-1)", x, () -> x.heard(-1));
        Due.noIndex("heard(3)", x, () -> x.heard(3));
    }

    private static void weak() {
        Fieldwire x = desks(0, 7, 63, 56, 36);
        x.wire(0, 1, false);
        x.wire(1, 2, false);
        x.wire(2, 3, false);
        Due.is("weak(0)", x.weak(0), 3);
        Due.is("weak(1)", x.weak(1), 4);
        Due.is("weak(2)", x.weak(2), 3);
        x.wire(3, 0, false);
        Due.is("a ring", x.weak(1), 0);
        x.wire(4, 0, false);
        Due.is("one hangs on it", x.weak(4), 4);
        x.wire(0, 4, false);
        Due.is("two side by side", x.weak(4), 0);
        x.shell(15);
        Due.is("without a broken one", x.weak(1), 0);
        Due.is("the ring is open", x.weak(3), 6);
        Due.noIndex("weak(-1)", x, () -> x.weak(-1));
        Due.noIndex("weak(6)", x, () -> x.weak(6));
    }

    /** The checksum of the answers that the object gives itself. */
    private static long sum(Fieldwire x) {
        long d = 58262;
        for (int what = 0; what <= 16; what++) {
            d = d * 31 + x.field(what);
        }
        int desks = x.field(1);
        for (int desk = 0; desk < desks; desk++) {
            for (int what = 0; what <= 13; what++) {
                d = d * 31 + x.ofDesk(desk, what);
            }
            d = d * 31 + (long) (64 * x.right(desk));
            d = d * 31 + x.heard(desk);
            d = d * 31 + x.best(desk);
            for (int other = 0; other < desks; other++) {
                d = d * 31 + x.route(desk, other);
                d = d * 31 + x.ofBirds(desk, other);
                for (int what = 0; what <= 2; what++) {
                    d = d * 31 + x.belief(desk, other, what);
                }
            }
        }
        for (int wire = 0; wire < x.field(2); wire++) {
            for (int what = 0; what <= 7; what++) {
                d = d * 31 + x.ofWire(wire, what);
            }
            d = d * 31 + x.weak(wire);
        }
        for (int message = 0; message < x.field(3); message++) {
            for (int what = 0; what <= 14; what++) {
                d = d * 31 + x.ofMessage(message, what);
            }
            d = d * 31 + x.would(message);
        }
        return d * 31 + (x.isSound() ? 1 : 0);
    }

    private static void digest() {
        Fieldwire x = new Fieldwire();
        Due.is("of a new object", x.digest(), sum(x));
        Fieldwire y = reported();
        Due.is("of more", y.digest(), sum(y));
        y.birds(0, 1, 3);
        y.birds(2, 1, 4);
        y.post(17);
        y.write(0, 2, 1, 30, 1, true, -7);
        y.pass(2);
        y.mend(0, 0);
        Due.is("of still more", y.digest(), sum(y));
        Due.is("asked once more", y.digest(), sum(y));
        y.desk(7, 1, 0, 0, false);
        Due.is("a third is right: 64 / 3 is cut to 21", (long) (64 * y.right(1)), 21L);
        Due.is("with that", y.digest(), sum(y));
    }

    private static void isSound() {
        Fieldwire x = reported();
        x.write(0, 2, 0, 1, 0, false, 0);
        x.pass(1);
        x.mend(0, 0);
        Due.is("with men under way", x.isSound(), true);
        x.shell(0);
        x.shell(9);
        x.shell(8);
        Due.is("a runner and a linesman are lost", x.field(15) + x.field(16), 2);
        Due.is("isSound()", x.isSound(), true);
    }
}
