/** Promises 17 to 37: what is answered where there is nothing yet, and where all of it is there. */
public final class EdgesOfAnswersTest {
    public static void main(String[] args) {
        calls();
        ofCell();
        course();
        ofDesk();
        ofBirds();
        ofWire();
        ofMessage();
        belief();
        diaryOfEachMinute();
        diaryOfNothing();
        right();
        fieldOfNothing();
        fieldOfAll();
        route();
        tell();
        would();
        delay();
        best();
        bestOfSeveral();
        heard();
        weak();
        isSound();
        digestOfNothing();
        digestOfADesk();
        askedChangesNothing();
        Due.end("EdgesOfAnswersTest");
    }

    /** "Returns how many were REFUSED ever, with this" */
    private static void calls() {
        Fieldwire x = new Fieldwire();
        for (int k = 1; k <= 500; k++) {
            Due.is("call " + k, x.call(), k);
        }
        Due.is("of another object", new Fieldwire().call(), 1);
    }

    private static void ofCell() {
        Fieldwire x = new Fieldwire();
        for (int what = 0; what <= 5; what++) {
            Due.is("nothing at 0: " + what, x.ofCell(0, what), 0);
            Due.is("nothing at 63: " + what, x.ofCell(63, what), 0);
        }
        x.ground(63, 63, 9, 3);
        for (int desk = 0; desk < 6; desk++) {
            x.desk(63, 1, 0, 0, false);
        }
        for (int wire = 0; wire < 10; wire++) {
            x.wire(wire % 5, 5, false);
        }
        x.shell(63);
        int[] due = {9, 3, 5, 10, 10, 6};
        for (int what = 0; what <= 5; what++) {
            Due.is("all at 63: " + what, x.ofCell(63, what), due[what]);
            Due.is("nothing beside it: " + what, x.ofCell(62, what), 0);
        }
    }

    /** "0 the first one", "NONE behind the last one" */
    private static void course() {
        Fieldwire x = new Fieldwire();
        Due.is("itself", x.course(63, 63, 0), 63);
        Due.is("behind itself", x.course(63, 63, 1), -1);
        Due.is("the last one", x.course(63, 0, 7), 0);
        Due.is("behind it", x.course(63, 0, 8), -1);
        Due.is("far behind", x.course(63, 0, Integer.MAX_VALUE), -1);
    }

    private static void ofDesk() {
        Fieldwire x = Made.far(2);
        int[] nothing = {0, 1, 1, 0, 0, -1, 0, 1, 0, 0, 0, 0, 0, -1};
        for (int what = 0; what <= 13; what++) {
            Due.is("nothing yet: " + what, x.ofDesk(0, what), nothing[what]);
        }
        for (int k = 0; k < 24; k++) {
            Made.order(x, 0, 1, k);
        }
        Due.is("24 wait", x.ofDesk(0, 8), 24);
        Due.is("none waits at its goal", x.ofDesk(1, 8), 0);
        x.wire(0, 1, false);
        x.pass(1);
        Due.is("23 wait", x.ofDesk(0, 8), 23);
        x.pass(24);
        int[] all = {3, 1, 1, 0, 0, -1, 0, 1, 0, 1, 23, 24, 0, 0};
        for (int what = 0; what <= 13; what++) {
            Due.is("all came: " + what, x.ofDesk(1, what), all[what]);
        }
        Fieldwire y = Made.far(2);
        for (int k = 0; k < 24; k++) {
            y.write(0, 1, 0, 1, 1, true, 5);
        }
        y.turn(1);
        y.wire(0, 1, false);
        y.pass(49);
        Due.is("all are garbled", y.ofDesk(1, 12), 24);
        Due.is("none could be read", y.ofDesk(1, 11), 0);
        Due.is("none was carried out", y.ofDesk(1, 9), 0);
        Due.is("no origin", y.ofDesk(1, 13), -1);
    }

    /** "(0, if both are the same)" */
    private static void ofBirds() {
        Fieldwire x = Made.far(6);
        for (int desk = 0; desk < 6; desk++) {
            for (int home = 0; home < 6; home++) {
                Due.is("none at first", x.ofBirds(desk, home), 0);
                if (desk != home) {
                    x.birds(desk, home, (desk + home) % 9 + 1);
                }
            }
        }
        for (int desk = 0; desk < 6; desk++) {
            for (int home = 0; home < 6; home++) {
                Due.is("birds of " + home + " at " + desk, x.ofBirds(desk, home),
                        desk == home ? 0 : (desk + home) % 9 + 1);
            }
        }
    }

    private static void ofWire() {
        Fieldwire x = new Fieldwire();
        x.ground(0, 63, 0, 1);
        x.desk(56, 1, 0, 9, false);
        x.desk(7, 1, 0, 9, false);
        x.wire(1, 0, true);
        int[] nothing = {1, 0, 8, 0, 8, 0, -1, 0};
        for (int what = 0; what <= 7; what++) {
            Due.is("nothing yet: " + what, x.ofWire(0, what), nothing[what]);
        }
        for (int k = 1; k < 24; k++) {
            Made.report(x, 0, 1, 1);
        }
        x.write(0, 1, 0, 99, 1, false, 0);
        for (int k = 0; k < 9; k++) {
            x.mend(0, 0);
            x.mend(1, 0);
        }
        x.pass(1);
        for (int cell = 7; cell <= 56; cell += 7) {
            if (cell != 7 && cell != 56) {
                x.shell(cell);
                x.shell(cell);
            }
        }
        int[] all = {1, 0, 8, 6, 2, 0, 23, 18};
        for (int what = 0; what <= 7; what++) {
            Due.is("all of it: " + what, x.ofWire(0, what), all[what]);
        }
        x.shell(7);
        x.shell(7);
        x.shell(56);
        x.shell(56);
        x.move(0, 0);
        int[] dead = {1, 0, 8, 8, 0, 1, 23, 0};
        for (int what = 0; what <= 7; what++) {
            Due.is("dead: " + what, x.ofWire(0, what), dead[what]);
        }
    }

    private static void ofMessage() {
        Fieldwire x = new Fieldwire();
        x.desk(40, 1, 1, 0, false);
        x.desk(40, 1, 0, 0, false);
        x.pass(3);
        x.write(0, 1, 2, 1, 0, false, 0);
        x.shell(40);
        int[] waits = {0, 1, 2, 1, 0, 0, 0, 3, 0, 0, -1, 0, -1, 0, 0};
        int[] goes = {0, 1, 2, 1, 0, 0, 0, 3, 1, 0, 3, 1, -1, 0, 0};
        int[] came = {0, 1, 2, 1, 0, 0, 0, 3, 2, 0, 3, 0, 5, 0, 0};
        int[][] due = {waits, goes, came};
        for (int minute = 0; minute < 3; minute++) {
            for (int what = 0; what <= 14; what++) {
                Due.is("ofMessage(0, " + what + ")", x.ofMessage(0, what), due[minute][what]);
            }
            x.pass(1);
        }
        // the first MINUTE at which a message can have come, and the last one
        Fieldwire y = Made.far(2);
        y.wire(0, 1, false);
        Made.report(y, 0, 1, 1);
        y.pass(2);
        Due.is("at 2", y.ofMessage(0, 12), 2);
        Made.pass(y, 2876);
        Made.report(y, 0, 1, 1);
        y.pass(2);
        Due.is("written at 2878", y.ofMessage(1, 7), 2878);
        Due.is("came at 2880", y.ofMessage(1, 12), 2880);
        Made.report(y, 0, 1, 1);
        Due.is("written at 2880", y.ofMessage(2, 7), 2880);
        Due.noState("no minute is left", y, () -> y.pass(1));
    }

    /** "(of itself: its own)", "(of itself: MINUTE; NONE ..)", "0 if not, or it BELIEVES nothing", "(0: 0 ..)" */
    private static void belief() {
        Fieldwire x = Made.far(2);
        x.state(0, -99);
        x.state(1, 99);
        int[][] due = {{-99, 0, 1}, {0, -1, 0}};
        for (int what = 0; what <= 2; what++) {
            Due.is("of itself: " + what, x.belief(0, 0, what), due[0][what]);
            Due.is("nothing: " + what, x.belief(0, 1, what), due[1][what]);
            Due.is("nothing: " + what, x.belief(1, 0, what), due[1][what]);
        }
        x.wire(0, 1, false);
        Made.report(x, 1, 0, 1);
        x.pass(2);
        Due.is("its value", x.belief(0, 1, 0), 99);
        Due.is("its origin, 0", x.belief(0, 1, 1), 0);
        Due.is("right", x.belief(0, 1, 2), 1);
        Due.is("of itself: MINUTE", x.belief(0, 0, 1), 2);
        x.state(1, 98);
        Due.is("not by now", x.belief(0, 1, 2), 0);
        x.state(1, 99);
        Due.is("right once more", x.belief(0, 1, 2), 1);
        Made.pass(x, 2878);
        Due.is("of itself: MINUTE", x.belief(1, 1, 1), 2880);
        Due.is("right without a REPORT of 0", x.belief(1, 0, 2), 0);
    }

    /** "by which it BELIEVED then (as that MINUTE was over)" */
    private static void diaryOfEachMinute() {
        Fieldwire x = Made.far(3);
        x.wire(0, 1, false);
        x.wire(2, 1, false);
        // from 0: one of ORIGIN 0 comes at 2, one of ORIGIN 2 at 4, one of ORIGIN 1 behind that
        Made.report(x, 0, 1, 1);
        x.pass(1);
        Made.report(x, 0, 1, 1);
        x.pass(1);
        x.write(0, 1, 0, 1, 0, false, 0);
        Made.report(x, 2, 1, 99);
        x.write(0, 1, 0, 1, 0, true, 3);
        x.pass(8);
        int[] of0 = {-1, -1, 0, 1, 2, 2, 2, 2, 2, 2, 2};
        int[] of2 = {-1, -1, -1, -1, -1, -1, -1, -1, 3, 3, 3};
        for (int minute = 0; minute <= 10; minute++) {
            Due.is("diary(1, 0, " + minute + ")", x.diary(1, 0, minute), of0[minute]);
            Due.is("diary(1, 2, " + minute + ")", x.diary(1, 2, minute), of2[minute]);
            Due.is("diary(0, 1, " + minute + ")", x.diary(0, 1, minute), -1);
        }
        Due.noArgument("a minute ahead", x, () -> x.diary(1, 0, 11));
        x.pass(1);
        Due.is("then it is asked", x.diary(1, 0, 11), 2);
    }

    /** "NONE, if nothing": at MINUTE 0, and of a DESK told later. */
    private static void diaryOfNothing() {
        Fieldwire x = Made.far(2);
        Due.is("minute 0", x.diary(0, 1, 0), -1);
        Due.noArgument("minute -1", x, () -> x.diary(0, 1, -1));
        Due.noArgument("minute 1", x, () -> x.diary(0, 1, 1));
        Made.pass(x, 2880);
        x.desk(6, 1, 0, 0, false);
        Due.is("a new desk's first minute", x.diary(2, 0, 0), -1);
        Due.is("of a new desk", x.diary(0, 2, 2880), -1);
        Due.noArgument("minute 2881", x, () -> x.diary(0, 1, 2881));
    }

    /** "(1.0 without others)": of one to five others none, some and all are right. */
    private static void right() {
        Fieldwire alone = Made.desks(0);
        alone.state(0, 5);
        Due.is("alone", alone.right(0), 1.0);
        for (int others = 1; others <= 5; others++) {
            Fieldwire x = Made.far(others + 1);
            Due.is("nothing is believed, though all are 0", x.right(0), 0.0);
            for (int other = 1; other <= others; other++) {
                x.wire(other, 0, false);
                Made.report(x, other, 0, 1);
                x.pass(2);
                Due.is(other + " of " + others, x.right(0), (double) other / others);
            }
            Due.is("all", x.right(0), 1.0);
            x.state(others, 1);
            Due.is("all but one", x.right(0), (others - 1.0) / others);
            Due.is("its own state does not matter", x.state(0, 9), 0);
            Due.is("all but one", x.right(0), (others - 1.0) / others);
        }
    }

    private static void fieldOfNothing() {
        Fieldwire x = new Fieldwire();
        int[] due = {0, 0, 0, 0, 0, 0, 0, 0, 0, 0, -1, 0, 0, 1, 0, 0, 0};
        for (int what = 0; what <= 16; what++) {
            Due.is("field(" + what + ") of nothing", x.field(what), due[what]);
        }
        Due.noArgument("field(-1)", x, () -> x.field(-1));
        Due.noArgument("field(17)", x, () -> x.field(17));
    }

    /** Six DESKS, ten WIRES, 24 messages, 54 LINESMEN under way, all at once. */
    private static void fieldOfAll() {
        Fieldwire x = new Fieldwire();
        x.ground(0, 63, 0, 1);
        for (int desk = 0; desk < 6; desk++) {
            x.desk(0, 4, 9, 9, true);
        }
        for (int wire = 0; wire < 10; wire++) {
            x.wire(wire % 5, wire % 5 + 1, false);
        }
        x.shell(0);
        for (int k = 0; k < 24; k++) {
            x.write(0, 1 + k % 5, 2, 99, 0, false, 0);
        }
        for (int desk = 0; desk < 6; desk++) {
            for (int k = 0; k < 9; k++) {
                x.mend(desk, Math.min(desk, 4));
            }
        }
        x.jam(240);
        x.post(63);
        Due.is("linesmen under way", x.field(14), 54);
        Due.is("on the last wire", x.ofWire(4, 7), 18);
        Due.is("isSound()", x.isSound(), true);
        x.pass(1);
        int[] due = {1, 6, 10, 24, 15, 9, 0, 0, 0, 239, 63, 0, 0, 1, 54, 0, 0};
        for (int what = 0; what <= 16; what++) {
            Due.is("field(" + what + ") of all", x.field(what), due[what]);
        }
        x.shell(0);
        Due.is("all linesmen are lost", x.field(16), 54);
        Due.is("no runner is at his first cell", x.field(15), 0);
        Due.is("none is under way", x.field(14), 0);
        Due.is("isSound()", x.isSound(), true);
        x.pass(1);
        Due.is("nine came", x.field(6), 9);
        Due.is("15 wait", x.field(4), 15);
    }

    /** "(itself, if both are the same; NONE without a way)" */
    private static void route() {
        Fieldwire x = Made.far(6);
        for (int from = 0; from < 6; from++) {
            for (int to = 0; to < 6; to++) {
                Due.is("without wires", x.route(from, to), from == to ? to : -1);
            }
        }
        for (int desk = 0; desk < 5; desk++) {
            x.wire(desk, desk + 1, false);
        }
        for (int from = 0; from < 6; from++) {
            for (int to = 0; to < 6; to++) {
                int due = from < to ? from + 1 : from > to ? from - 1 : to;
                Due.is("in a row", x.route(from, to), due);
            }
        }
    }

    private static void tell() {
        Fieldwire x = Made.far(6);
        for (int k = 0; k < 24; k++) {
            x.write(5, 0, 2, 1, 0, k % 2 == 1, 0);
        }
        Due.is("the first one", x.tell(0), "0: report 5>0 waits at 5");
        Due.is("the last one", x.tell(23), "23: order 5>0 waits at 5");
        Due.noIndex("behind it", x, () -> x.tell(24));
        Due.noIndex("ahead of the first one", x, () -> x.tell(-1));
    }

    /** "NONE, if by none; -2, if it does not WAIT": on its way, came, lost, garbled */
    private static void would() {
        Fieldwire x = new Fieldwire();
        x.desk(20, 1, 1, 0, false);
        x.desk(20, 1, 0, 0, false);
        x.desk(60, 1, 0, 0, false);
        x.shell(20);
        x.write(0, 1, 0, 1, 1, false, 0);
        x.write(0, 2, 0, 1, 0, false, 0);
        x.write(1, 2, 0, 1, 0, false, 0);
        Due.is("by runner", x.would(0), 3);
        Due.is("also by runner: ahead of all others", x.would(1), 3);
        Due.is("by none", x.would(2), -1);
        x.turn(1);
        x.pass(1);
        Due.is("on its way", x.would(0), -2);
        Due.is("the runner is gone", x.would(1), -1);
        x.pass(1);
        Due.is("garbled", x.would(0), -2);
        Due.is("written again: by none", x.would(3), -1);
        x.wire(1, 2, false);
        x.pass(2);
        Due.is("came", x.would(2), -2);
        Fieldwire y = new Fieldwire();
        y.desk(16, 1, 1, 0, false);
        y.desk(23, 1, 0, 0, false);
        Made.report(y, 0, 1, 1);
        y.pass(1);
        y.shell(17);
        Due.is("lost", y.would(0), -2);
    }

    /** "NONE without a way": the shortest one is 1, the longest one 50 MINUTES. */
    private static void delay() {
        Fieldwire x = Made.far(6);
        Due.is("without a way", x.delay(0, 5, 1, 0), -1);
        for (int desk = 0; desk < 5; desk++) {
            x.wire(desk, desk + 1, false);
        }
        Due.is("the shortest one", x.delay(5, 4, 1, 0), 1);
        Due.is("the longest one", x.delay(0, 5, 99, 1), 50);
        Due.is("and back", x.delay(5, 0, 99, 1), 50);
        x.write(0, 5, 0, 99, 1, false, 0);
        x.pass(50);
        Due.is("one minute is left", x.ofMessage(0, 11), 1);
        x.pass(1);
        Due.is("from 1 to 51", x.ofMessage(0, 12), 51);
        x.shell(30);
        Due.is("broken", x.delay(0, 5, 1, 0), -1);
        Due.is("up to there", x.delay(0, 4, 1, 0), 4);
    }

    /** "(not a water)", "NONE, if all are water" */
    private static void best() {
        Fieldwire x = Made.desks(27);
        Due.is("alone, where it is", x.best(0), 27);
        x.ground(27, 27, 0, 3);
        Due.is("the smallest number one step away", x.best(0), 18);
        x.ground(0, 63, 0, 3);
        Due.is("all are water", x.best(0), -1);
        x.ground(63, 63, 9, 1);
        Due.is("all but the last one", x.best(0), 63);
        x.ground(63, 63, 0, 3);
        x.ground(0, 0, 0, 2);
        Due.is("all but the first one", x.best(0), 0);
    }

    /** "most other DESKS .. 5 STEPS away at most; of several the one with the fewest STEPS .., then the smallest number" */
    private static void bestOfSeveral() {
        Fieldwire x = Made.desks(0, 7);
        Due.is("5 steps from 7", x.best(0), 2);
        Due.is("the other one sees it from 5", x.best(1), 5);
        x.ground(2, 2, 0, 3);
        Due.is("2 steps, the next number", x.best(0), 10);
        x.shell(10);
        Due.is("not in smoke", x.best(0), 18);
        x.desk(63, 1, 0, 0, false);
        x.ground(2, 2, 0, 0);
        Due.is("both are seen from rows and columns of 2 to 5", x.best(0), 18);
        Fieldwire y = Made.desks(0, 0);
        Due.is("at the same cell", y.best(0), 0);
        y.shell(0);
        Due.is("nothing is seen in smoke: where it is", y.best(0), 0);
        y.pass(5);
        y.ground(0, 0, 0, 3);
        Due.is("not a water", y.best(0), 1);
    }

    /** A set of 1, 2 and 4: none and all. */
    private static void heard() {
        Fieldwire x = Made.far(6);
        Due.is("row 0", x.heard(0), 2);
        Due.is("row 3: none", x.heard(5), 0);
        Fieldwire y = new Fieldwire();
        y.desk(15, 1, 0, 0, true);
        y.desk(16, 1, 0, 0, true);
        Due.is("row 1, a set", y.heard(0), 6);
        Due.is("row 2, a set", y.heard(1), 4);
        y.wire(0, 1, false);
        y.post(0);
        Due.is("all", y.heard(0), 7);
        Due.is("all", y.heard(1), 7);
    }

    /** "how many pairs of DESKS would have no way .. any more without it, that have one now" */
    private static void weak() {
        Fieldwire x = Made.far(6);
        int[] due = {5, 8, 9, 8, 5};
        for (int desk = 0; desk < 5; desk++) {
            x.wire(desk, desk + 1, false);
        }
        for (int wire = 0; wire < 5; wire++) {
            Due.is("weak(" + wire + ") in a row", x.weak(wire), due[wire]);
        }
        x.wire(5, 0, true);
        for (int wire = 0; wire < 6; wire++) {
            Due.is("weak(" + wire + ") in a ring", x.weak(wire), 0);
        }
        x.move(5, 63);
        Due.is("a dead one", x.weak(5), 0);
        Due.is("the row of five", x.weak(2), 6);
        x.shell(5);
        Due.is("a broken one", x.weak(1), 0);
        Due.is("the row of three", x.weak(2), 2);
        Due.is("one alone", x.weak(0), 1);
    }

    private static void isSound() {
        Fieldwire x = new Fieldwire();
        Due.is("of nothing", x.isSound(), true);
        Due.is("of a desk without men", Made.desks(0).isSound(), true);
        // each WIRE carries one, all CORDS are in use, one is on the air, and men are under way
        Fieldwire y = new Fieldwire();
        y.ground(0, 63, 0, 1);
        y.desk(0, 1, 1, 1, true);
        y.desk(3, 1, 1, 1, true);
        y.desk(6, 1, 1, 1, true);
        y.wire(0, 1, false);
        y.wire(1, 0, false);
        y.write(0, 1, 0, 99, 0, false, 0);
        y.write(1, 0, 0, 99, 0, false, 0);
        y.write(2, 0, 0, 99, 0, false, 0);
        y.write(2, 0, 2, 99, 0, false, 0);
        y.mend(1, 0);
        y.pass(1);
        Due.is("one on the wire", y.ofMessage(0, 10), 0);
        Due.is("one on the air", y.ofMessage(1, 10), 2);
        Due.is("a runner", y.ofMessage(2, 10), 3);
        Due.is("sound", y.isSound(), true);
    }

    /** "d becomes d * 31 + v, which wraps around as a 64-bit integer" */
    private static long sum(int... all) {
        long d = 58262;
        for (int v : all) {
            d = d * 31 + v;
        }
        return d;
    }

    private static void digestOfNothing() {
        Due.is("of nothing", new Fieldwire().digest(), sum(0, 0, 0, 0, 0, 0, 0, 0, 0, 0, -1, 0, 0, 1, 0, 0, 0, 1));
    }

    /** Each number of it written out, so that no two of them have changed places. */
    private static void digestOfADesk() {
        Fieldwire x = new Fieldwire();
        x.desk(40, 3, 2, 1, true);
        x.state(0, -5);
        Made.pass(x, 361);
        Due.is("of a desk", x.digest(), sum(361, 1, 0, 0, 0, 0, 0, 0, 0, 0, -1, 0, 0, 0, 0, 0, 0,
            40, 3, 3, 2, 1, 60, -5, 1, 0, 0, 0, 0, 0, -1, 64, 4, 40, 0, 0, -5, 361, 1, 1));

        Fieldwire y = Made.desks(16, 56, 63);
        y.wire(0, 1, true);
        y.birds(0, 2, 7);
        y.state(1, 4);
        y.write(1, 0, 1, 8, 0, false, 0);
        y.pass(2);
        y.turn(2);
        y.ground(0, 63, 0, 3);
        Due.is("of desks, a wire and a message", y.digest(), sum(2, 3, 1, 1, 0, 0, 1, 0, 0, 0, -1, 0, 0, 1, 0, 0, 0,
            16, 1, 1, 0, 0, -1, 0, 1, 0, 0, 0, 1, 0, -1, 32, 0, -1, 0, 0, 0, 2, 1, 1, 0, 4, 0, 1, -1, 7, 0, -1, 0,
            56, 1, 1, 0, 0, -1, 4, 1, 0, 0, 0, 0, 0, -1, 0, 0, -1, 0, 0, 0, -1, 0, 1, 0, 4, 2, 1, -1, 0, 0, -1, 0,
            63, 1, 1, 0, 0, -1, 0, 2, 0, 0, 0, 0, 0, -1, 0, 0, -1, -1, 0, 0, -1, 0, -1, 0, 0, -1, 0, 2, 0, 0, 2, 1,
            0, 1, 6, 0, 6, 0, -1, 0, 1,
            1, 0, 1, 8, 0, 0, 4, 0, 2, 1, 0, 0, 2, 0, 0, -2, 1));
    }

    /** "What is asked changes nothing": one is asked all between its MINUTES, the other one is not. */
    private static void askedChangesNothing() {
        Fieldwire asked = busy();
        Fieldwire left = busy();
        for (int k = 0; k < 60; k++) {
            askAll(asked);
            asked.pass(1);
            left.pass(1);
        }
        Due.is("asked and left alone", Due.all(asked), Due.all(left));
        Due.is("calls", asked.call(), left.call());
        Due.is("books", asked.capture(9), left.capture(9));
    }

    private static Fieldwire busy() {
        Fieldwire x = new Fieldwire();
        x.ground(20, 30, 2, 1);
        x.desk(16, 2, 2, 2, true);
        x.desk(20, 1, 2, 2, true);
        x.desk(63, 1, 2, 2, true);
        x.desk(60, 1, 2, 2, false);
        x.wire(0, 1, true);
        x.wire(1, 2, false);
        x.wire(2, 3, false);
        for (int k = 0; k < 16; k++) {
            x.write(k % 4, (k + 1 + k / 4 % 3) % 4, k % 3, 1 + k * 6, k % 2, k % 5 == 0, k);
        }
        x.turn(2);
        x.shell(61);
        x.mend(2, 2);
        x.jam(3);
        x.capture(1);
        x.post(40);
        return x;
    }

    private static void askAll(Fieldwire x) {
        for (int cell = 0; cell < 64; cell++) {
            for (int what = 0; what <= 5; what++) {
                x.ofCell(cell, what);
            }
            x.course(cell, 63 - cell, 2);
            x.sees(cell, 63 - cell);
        }
        for (int one = 0; one < 4; one++) {
            x.right(one);
            x.best(one);
            x.heard(one);
            for (int two = 0; two < 4; two++) {
                x.ofBirds(one, two);
                x.route(one, two);
                x.belief(one, two, one % 3);
                if (one != two) {
                    x.diary(one, two, x.field(0));
                    x.delay(one, two, 20, 1);
                }
            }
        }
        for (int wire = 0; wire < 3; wire++) {
            x.ofWire(wire, 6);
            x.weak(wire);
        }
        for (int message = 0; message < 16; message++) {
            x.would(message);
            x.tell(message);
            x.ofMessage(message, 13);
        }
        x.isSound();
        x.digest();
    }
}
