/**
 * Sections 3 to 6 for a message that a DESK between sends on: what counts is the DESK where it WAITS («here», «this
 * DESK»), not its first DESK.
 */
public final class HandedOnTest {
    /** Beside DESK 0, beside DESK 1, beside neither of them. */
    private static final int BY_FIRST = 28;
    private static final int BY_BETWEEN = 16;
    private static final int FAR = 63;

    public static void main(String[] args) {
        waitsBetween();
        lampBetween();
        lampInUseBetween();
        lampKeptBetween();
        radioBetween();
        radioWithAnEmptyFirstBattery();
        radioKeptByItsOwnBattery();
        runnerBetween();
        runnerWithoutAWayFromHere();
        runnerLostFromBetween();
        cordsBetween();
        comingToADeskWithoutCords();
        backByItsFirstDesk();
        birdsBetween();
        birdsStampedBetween();
        heardOnTheSecondWire();
        heardOnceIsHeard();
        garbledFromBetween();
        Due.end("HandedOnTest");
    }

    /** DESKS 0 at 27, 1 at 24, 2 at 63, in woods, with WIRES 0-1 and 1-2. */
    private static Fieldwire three(boolean[] sets, int[] runners) {
        Fieldwire x = new Fieldwire();
        x.ground(0, 63, 0, 1);
        int[] cells = {27, 24, FAR};
        for (int desk = 0; desk < 3; desk++) {
            x.desk(cells[desk], 1, runners[desk], 0, sets[desk]);
        }
        x.wire(0, 1, false);
        x.wire(1, 2, false);
        return x;
    }

    private static Fieldwire three() {
        return three(new boolean[3], new int[3]);
    }

    /** A message of 0 is at 1 at MINUTE 2, and the WIRE from there is DEAD, as its goal has moved. */
    private static void handToBetween(Fieldwire x, int rank, int words, int goalCell) {
        x.write(0, 2, rank, words, 0, false, 0);
        x.pass(1);
        Due.is("to 1", x.tell(0), "0: report 0>2 by wire to 1");
        x.move(2, goalCell);
        x.pass(x.ofMessage(0, 11));
    }

    /** "It WAITS at a DESK (first at that where it is written)"; ofMessage 9 "the DESK where it WAITS" */
    private static void waitsBetween() {
        Fieldwire x = three();
        handToBetween(x, 0, 1, 60);
        Due.is("it waits", x.tell(0), "0: report 0>2 waits at 1");
        Due.is("at 1", x.ofMessage(0, 9), 1);
        Due.is("its first desk", x.ofMessage(0, 0), 0);
        Due.is("it went last by wire", x.ofMessage(0, 10), 0);
        Due.is("no minutes are left", x.ofMessage(0, 11), 0);
        Due.is("it has not come", x.ofMessage(0, 12), -1);
        Due.is("waiting at 0", x.ofDesk(0, 8), 0);
        Due.is("waiting at 1", x.ofDesk(1, 8), 1);
        Due.is("read at 1", x.ofDesk(1, 11), 0);
        Due.is("by none", x.would(0), -1);
    }

    /** LAMP: "if the CELLS of this DESK and its goal SEE each other" */
    private static void lampBetween() {
        Fieldwire x = three();
        handToBetween(x, 0, 1, BY_FIRST);
        Due.is("its first desk sees the goal", x.sees(27, BY_FIRST), true);
        Due.is("that does not help", x.tell(0), "0: report 0>2 waits at 1");
        Due.is("would", x.would(0), -1);
        Fieldwire y = three();
        handToBetween(y, 0, 8, BY_BETWEEN);
        Due.is("this desk sees the goal", y.tell(0), "0: report 0>2 by lamp to 2");
        Due.is("8 / 8 + 1", y.ofMessage(0, 11), 2);
        Due.is("it left 1 last", y.ofMessage(0, 9), 1);
        // to its goal alone: the next DESK of the way is in sight, but its wire is in use
        Fieldwire z = new Fieldwire();
        z.ground(0, 63, 0, 1);
        z.desk(16, 4, 0, 0, false);
        z.desk(17, 4, 0, 0, false);
        z.desk(FAR, 4, 0, 0, false);
        z.wire(0, 1, false);
        z.wire(1, 2, false);
        z.write(0, 1, 0, 99, 0, false, 0);
        z.write(0, 2, 1, 1, 0, false, 0);
        z.pass(1);
        Due.is("its wire is in use", z.ofWire(0, 6), 0);
        Due.is("no lamp to the next desk", z.tell(1), "1: report 0>2 waits at 0");
    }

    /** "the LAMP of this DESK is not in use" */
    private static void lampInUseBetween() {
        Fieldwire x = three();
        x.desk(BY_FIRST, 1, 0, 0, false);
        x.write(0, 3, 2, 99, 0, false, 0);
        handOneWord(x, BY_BETWEEN, 2);
        Due.is("that of 0 is in use", x.tell(0), "0: report 0>3 by lamp to 3");
        Due.is("that of 1 is not", x.tell(1), "1: report 0>2 by lamp to 2");
        Fieldwire y = three();
        y.desk(BY_BETWEEN, 1, 0, 0, false);
        y.write(1, 3, 2, 99, 0, false, 0);
        handOneWord(y, BY_BETWEEN, 2);
        Due.is("that of 1 is in use", y.tell(0), "0: report 1>3 by lamp to 3");
        Due.is("so it waits there", y.tell(1), "1: report 0>2 waits at 1");
    }

    /** The same for a message of one WORD that is not the first one: at 1 at the MINUTE that is told. */
    private static void handOneWord(Fieldwire x, int goalCell, int minute) {
        x.write(0, 2, 0, 1, 0, false, 0);
        x.pass(1);
        x.move(2, goalCell);
        x.pass(minute - x.field(0));
    }

    /** "one by LAMP whose DESKS (where they are by now) do not SEE each other" */
    private static void lampKeptBetween() {
        for (int mover = 0; mover <= 2; mover++) {
            Fieldwire x = three();
            handToBetween(x, 0, 99, BY_BETWEEN);
            Due.is("by lamp", x.tell(0), "0: report 0>2 by lamp to 2");
            x.pass(1);
            Due.is("it goes on", x.ofMessage(0, 11), 12);
            x.move(mover, 60);
            x.pass(1);
            Due.is("minutes left", x.ofMessage(0, 11), mover == 0 ? 11 : 0);
            Due.is("desk " + mover + " moved", x.tell(0),
                    mover == 0 ? "0: report 0>2 by lamp to 2" : "0: report 0>2 waits at 1");
            Due.is("at 0", x.ofDesk(0, 8), 0);
            Due.is("at 1", x.ofDesk(1, 8), mover == 0 ? 0 : 1);
        }
    }

    /** RADIO: "both have a SET": this DESK and its goal */
    private static void radioBetween() {
        Fieldwire x = three(new boolean[] {true, false, true}, new int[3]);
        handToBetween(x, 0, 30, 60);
        Due.is("its first desk has a set", x.tell(0), "0: report 0>2 waits at 1");
        Fieldwire y = three(new boolean[] {false, true, true}, new int[3]);
        handToBetween(y, 0, 30, 60);
        Due.is("this desk has a set", y.tell(0), "0: report 0>2 by radio to 2");
        Due.is("30 / 10 + 1", y.ofMessage(0, 11), 4);
        y.move(0, 7);
        y.move(1, 8);
        y.move(2, 9);
        y.pass(1);
        Due.is("who moves keeps nothing on the air", y.ofMessage(0, 11), 3);
        y.pass(3);
        Due.is("it came", y.tell(0), "0: report 0>2 came");
        Due.is("the desk that it left last", y.ofMessage(0, 9), 1);
    }

    /** "the battery of this SET is not empty": that of the first DESK may be. */
    private static void radioWithAnEmptyFirstBattery() {
        Fieldwire x = three(new boolean[] {true, true, true}, new int[3]);
        x.desk(7, 1, 0, 0, true);
        // all 60 minutes of the battery of 0, one message behind the other one
        for (int k = 0; k < 6; k++) {
            x.write(0, 3, 0, 99, 0, false, 0);
        }
        x.write(0, 2, 1, 1, 0, false, 0);
        x.pass(1);
        x.move(2, 60);
        x.pass(59);
        Due.is("it waits for the air", x.tell(6), "6: report 0>2 waits at 1");
        Due.is("a minute is left in the battery of 0", x.ofDesk(0, 5), 1);
        x.pass(1);
        Due.is("the battery of 0 is empty", x.ofDesk(0, 5), 0);
        Due.is("what it sent is kept", x.tell(5), "5: report 0>3 waits at 0");
        Due.is("that of 1 is not", x.tell(6), "6: report 0>2 by radio to 2");
    }

    /** "with an empty battery of its DESK": the battery of the first DESK does not matter. */
    private static void radioKeptByItsOwnBattery() {
        for (int first = 0; first <= 1; first++) {
            Fieldwire x = three(new boolean[] {first == 1, true, true}, new int[3]);
            // five of 1 are on the air for 50 minutes, then that of 0
            for (int k = 0; k < 5; k++) {
                x.write(1, 2, 0, 99, 0, false, 0);
            }
            x.write(0, 2, 1, 99, 0, false, 0);
            x.pass(1);
            x.move(2, 60);
            x.pass(5);
            Due.is("at 1", x.tell(5), "5: report 0>2 waits at 1");
            x.pass(54);
            Due.is("by radio", x.tell(5), "5: report 0>2 by radio to 2");
            Due.is("its last minute", x.ofMessage(5, 11), 1);
            Due.is("a minute is left in the battery of 1", x.ofDesk(1, 5), 1);
            x.pass(1);
            Due.is("none", x.ofDesk(1, 5), 0);
            Due.is("it is kept", x.tell(5), "5: report 0>2 waits at 1");
            Due.is("it can not go", x.would(5), -1);
            Due.is("the battery of 0", x.ofDesk(0, 5), first == 1 ? 60 : -1);
            x.pass(1);
            Due.is("a minute later it goes again", x.tell(5), "5: report 0>2 by radio to 2");
        }
    }

    /** RUNNER: "and one is here: along the COURSE of the CELLS of now" */
    private static void runnerBetween() {
        Fieldwire x = three(new boolean[3], new int[] {2, 0, 2});
        handToBetween(x, 0, 1, 26);
        Due.is("one is at its first desk", x.tell(0), "0: report 0>2 waits at 1");
        Due.is("would", x.would(0), -1);
        Fieldwire y = three(new boolean[3], new int[] {0, 2, 0});
        handToBetween(y, 0, 1, 26);
        Due.is("one is here", y.tell(0), "0: report 0>2 by runner to 2");
        Due.is("two woods", y.ofMessage(0, 11), 12);
        Due.is("one is left here", y.ofDesk(1, 3), 1);
        y.pass(11);
        Due.is("none is there", y.ofDesk(2, 3), 0);
        y.pass(1);
        Due.is("he is there", y.ofDesk(2, 3), 1);
        Due.is("none at 0", y.ofDesk(0, 3), 0);
        Due.is("it came", y.tell(0), "0: report 0>2 came");
        Due.is("sound", y.isSound(), true);
    }

    /** "if there is no way by WIRE": from here */
    private static void runnerWithoutAWayFromHere() {
        // the wire 0-1 is broken behind it, and its first desk has a way by then
        Fieldwire x = three(new boolean[3], new int[] {0, 1, 0});
        x.write(0, 2, 0, 1, 0, false, 0);
        x.pass(1);
        x.move(2, 26);
        x.wire(0, 2, false);
        x.pass(1);
        Due.is("a way back", x.tell(0), "0: report 0>2 by wire to 0");
        Due.is("no runner", x.ofDesk(1, 3), 1);
        Fieldwire y = three(new boolean[3], new int[] {0, 1, 0});
        y.write(0, 2, 0, 20, 0, false, 0);
        y.pass(2);
        y.move(2, 12);
        Due.is("no way of 0", y.route(0, 2), -1);
        y.wire(0, 2, true);
        y.pass(1);
        y.shell(25);
        y.pass(1);
        Due.is("back to its own wire", y.ofWire(0, 3), 1);
        Due.is("0 has a way", y.route(0, 2), 2);
        Due.is("1 has none", y.route(1, 2), -1);
        Due.is("by runner from 1", y.tell(0), "0: report 0>2 by runner to 2");
        // the other way round: this desk has a way, but its wire is in use
        Fieldwire z = three(new boolean[3], new int[] {0, 1, 0});
        z.write(1, 2, 0, 99, 0, false, 0);
        z.write(0, 2, 0, 1, 0, false, 0);
        z.pass(2);
        z.shell(26);
        Due.is("0 has no way", z.route(0, 2), -1);
        Due.is("1 has one", z.route(1, 2), 2);
        z.pass(1);
        Due.is("no runner", z.tell(1), "1: report 0>2 waits at 1");
    }

    /** LOST on the way from a DESK between: ofMessage 9 "that it left last" */
    private static void runnerLostFromBetween() {
        Fieldwire x = three(new boolean[3], new int[] {1, 1, 1});
        handToBetween(x, 0, 1, 26);
        x.shell(25);
        Due.is("he is lost with it", x.tell(0), "0: report 0>2 lost");
        Due.is("it left 1 last", x.ofMessage(0, 9), 1);
        Due.is("by runner", x.ofMessage(0, 10), 3);
        Due.is("no minutes are left", x.ofMessage(0, 11), 0);
        Due.is("it has not come", x.ofMessage(0, 12), -1);
        Due.is("lost", x.field(15), 1);
        Due.is("sound", x.isSound(), true);
    }

    /** "and a CORD is free here" */
    private static void cordsBetween() {
        for (int cords = 1; cords <= 2; cords++) {
            Fieldwire x = new Fieldwire();
            x.ground(0, 63, 0, 1);
            x.desk(27, 3 - cords, 0, 0, false);
            x.desk(24, cords, 0, 0, false);
            x.desk(FAR, 1, 0, 0, false);
            x.desk(7, 1, 0, 0, false);
            x.wire(0, 1, false);
            x.wire(1, 2, false);
            x.wire(1, 3, false);
            x.write(0, 2, 0, 99, 0, false, 0);
            x.write(0, 3, 1, 1, 0, false, 0);
            x.pass(7);
            Due.is("the first one goes on", x.tell(0), "0: report 0>2 by wire to 2");
            Due.is("the second one, with " + cords, x.tell(1),
                    cords == 1 ? "1: report 0>3 waits at 1" : "1: report 0>3 by wire to 3");
            Due.is("free at 1", x.ofDesk(1, 2), 0);
            Due.is("free at 0", x.ofDesk(0, 2), 3 - cords);
            x.pass(4);
            Due.is("the first one came", x.ofMessage(0, 12), 11);
            x.pass(1);
            Due.is("then the second one", x.ofMessage(1, 12), cords == 1 ? 12 : 8);
        }
    }

    /** "(what comes to it needs none)", also if it goes on from there */
    private static void comingToADeskWithoutCords() {
        Fieldwire x = three();
        x.write(1, 2, 0, 99, 0, false, 0);
        x.write(0, 1, 1, 1, 0, false, 0);
        x.pass(1);
        Due.is("no cord is free at 1", x.ofDesk(1, 2), 0);
        Due.is("it goes there all the same", x.tell(1), "1: report 0>1 by wire to 1");
        x.write(0, 2, 1, 1, 0, false, 0);
        x.pass(1);
        Due.is("so does what goes on from there", x.tell(2), "2: report 0>2 by wire to 1");
        x.pass(1);
        Due.is("it waits there", x.tell(2), "2: report 0>2 waits at 1");
        Due.is("until the cord is free", x.ofDesk(1, 2), 0);
        x.pass(3);
        Due.is("that came at 6", x.ofMessage(0, 12), 6);
        Due.is("it goes", x.tell(2), "2: report 0>2 by wire to 2");
    }

    /** The way of now counts: it may go back by the DESK that it came from. */
    private static void backByItsFirstDesk() {
        Fieldwire x = three();
        x.desk(7, 1, 0, 0, false);
        x.wire(0, 3, false);
        x.wire(3, 2, false);
        x.write(0, 2, 0, 1, 0, false, 0);
        x.pass(1);
        Due.is("by 1, the smaller number", x.tell(0), "0: report 0>2 by wire to 1");
        x.shell(42);
        Due.is("the wire from 1 is broken", x.ofWire(1, 3), 1);
        Due.is("the way goes back", x.route(1, 2), 0);
        x.pass(1);
        Due.is("back to its first desk", x.tell(0), "0: report 0>2 by wire to 0");
        x.pass(1);
        Due.is("on to 3", x.tell(0), "0: report 0>2 by wire to 3");
        x.pass(2);
        Due.is("it came", x.ofMessage(0, 12), 5);
        Due.is("from 3", x.ofMessage(0, 9), 3);
    }

    /** BIRD: "a message that WAITS at the DESK"; "STEPS between the CELLS of both" */
    private static void birdsBetween() {
        Fieldwire x = three();
        handToBetween(x, 0, 1, 26);
        Made.pass(x, 360);
        x.birds(0, 2, 9);
        x.birds(2, 1, 9);
        Due.noState("birds are at its first desk alone", x, () -> x.fly(0));
        x.birds(1, 0, 9);
        Due.noState("of another home", x, () -> x.fly(0));
        x.birds(1, 2, 2);
        Due.is("two steps from 1 (one from 0)", x.fly(0), 3);
        Due.is("under way", x.tell(0), "0: report 0>2 by bird to 2");
        Due.is("one is left at 1", x.ofBirds(1, 2), 1);
        Due.is("nine at 0", x.ofBirds(0, 2), 9);
        Due.is("it left 1 last", x.ofMessage(0, 9), 1);
        x.pass(3);
        Due.is("it came", x.tell(0), "0: report 0>2 came");
    }

    /** "since this BIRD was brought": one of those at this DESK */
    private static void birdsStampedBetween() {
        for (int first = 0; first <= 1; first++) {
            Fieldwire x = three();
            handToBetween(x, 0, 1, 26);
            Made.pass(x, 360);
            x.birds(first, 2, 1);
            x.move(2, 60);
            x.birds(1 - first, 2, 1);
            Due.is("fly", x.fly(0), 5);
            x.pass(5);
            Due.is("brought to 1 ahead of the move: " + first, x.ofMessage(0, 8), first == 1 ? 3 : 2);
        }
    }

    /** The foe HEARS "all that goes by a WIRE ..": each WIRE that it goes by is asked. */
    private static void heardOnTheSecondWire() {
        Fieldwire x = three();
        x.post(61);
        x.write(0, 2, 0, 1, 0, false, 0);
        x.write(0, 1, 1, 1, 0, false, 0);
        x.pass(1);
        Due.is("not on the first wire", x.ofMessage(0, 13), 0);
        x.pass(1);
        Due.is("on the second one", x.ofMessage(0, 13), 2);
        Due.is("one is heard", x.field(11), 1);
        x.pass(1);
        Due.is("it came", x.ofMessage(0, 13), 2);
        Due.is("the other one did not go there", x.ofMessage(1, 13), 0);
    }

    /** What it HEARD once stays HEARD: what comes behind that, by LAMP, RUNNER or WIRE, is not. */
    private static void heardOnceIsHeard() {
        for (int way = 0; way < 3; way++) {
            Fieldwire x = three(new boolean[3], new int[] {0, way == 1 ? 1 : 0, 0});
            x.post(27);
            handToBetween(x, 0, 1, way == 0 ? BY_BETWEEN : 60);
            x.post(-1);
            if (way == 2) {
                x.wire(1, 2, true);
                x.pass(1);
            }
            Due.is("by", x.ofMessage(0, 10), way == 0 ? 1 : way == 1 ? 3 : 0);
            Due.is("on its way", x.ofMessage(0, 8), 1);
            Due.is("heard ahead of that", x.ofMessage(0, 13), 2);
            x.pass(1);
            Due.is("and behind it", x.ofMessage(0, 13), 2);
        }
        Fieldwire y = three();
        y.post(-1);
        handToBetween(y, 0, 1, BY_BETWEEN);
        Due.is("by lamp, in row 2", y.ofMessage(0, 10), 1);
        Due.is("not heard at all", y.ofMessage(0, 13), 0);
    }

    /** "written again at once at its first DESK", not at that which it left last */
    private static void garbledFromBetween() {
        Fieldwire x = three();
        x.turn(2);
        x.write(0, 2, 0, 1, 1, false, 0);
        x.turn(1);
        x.pass(5);
        Due.is("the book of the desk between does not matter", x.tell(0), "0: report 0>2 garbled");
        Due.is("it left 1 last", x.ofMessage(0, 9), 1);
        Due.is("as it came", x.ofMessage(0, 12), 5);
        Due.is("by wire", x.ofMessage(0, 10), 0);
        Due.is("garbled at its goal", x.ofDesk(2, 12), 1);
        Due.is("not at 1", x.ofDesk(1, 12), 0);
        Due.is("its first desk sends it", x.tell(1), "1: report 0>2 by wire to 1");
        Due.is("with the book of 0", x.ofMessage(1, 14), 1);
    }
}
