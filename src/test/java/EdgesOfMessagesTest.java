/** Sections 3 to 6 of the document: a test for each sentence that names a boundary case. */
public final class EdgesOfMessagesTest {
    public static void main(String[] args) {
        twentyFourMessages();
        smallestAndGreatestMessage();
        valueOfReports();
        sendingByRankOriginNumber();
        cords();
        comingNeedsNoCord();
        wireMinutes();
        fewestWires();
        waysByDesks();
        wireWithTheSmallestNumber();
        lampMinutes();
        lampSteps();
        lampInUse();
        lampInUseAlone();
        radioMinutes();
        radioRanksAndSets();
        oneOnTheAir();
        batteryNotEmpty();
        batterySixtyAtMost();
        runnerOnlyWithoutAWay();
        runnersOneByOne();
        runnersGoal();
        nineBirds();
        birdsBroughtAnew();
        birdsByDay();
        birdsOfAHomeThatMoved();
        wireIsKept();
        lampIsKept();
        radioIsKept();
        radioFromADeskBetween();
        bookNineThenOne();
        bookAsItIsWritten();
        garbledAmongTwentyFour();
        garbledAtItsFirstDesk();
        captured();
        heardByRadio();
        heardByLamp();
        heardByLampFromADeskBetween();
        heardByWire();
        heardAsItIsSent();
        reportsOfTheSameOrigin();
        ordersOfTheSameOrigin();
        Due.end("EdgesOfMessagesTest");
    }

    /** "MESSAGES: at most 24, numbered from 0"; those that HAVE COME or are LOST count too. */
    private static void twentyFourMessages() {
        Fieldwire x = Made.far(2);
        x.wire(0, 1, false);
        Due.noIndex("none is there", x, () -> x.tell(0));
        for (int number = 0; number < 24; number++) {
            Due.is("message " + number, Made.report(x, 0, 1, 1), number);
            Due.is("messages", x.field(3), number + 1);
            int next = number + 1;
            Due.noIndex("the one behind " + number, x, () -> x.tell(next));
        }
        Due.noState("a 25th one", x, () -> Made.report(x, 0, 1, 1));
        x.pass(25);
        Due.is("all came", x.field(6), 24);
        Due.noState("a 25th one, though all came", x, () -> Made.report(x, 1, 0, 1));
    }

    /** "a RANK (0 flash, 1 urgent, 2 plain), WORDS (1 to 99), a CODE (0 .., 1 ..)", a VALUE of -99 to 99 */
    private static void smallestAndGreatestMessage() {
        Fieldwire x = Made.far(6);
        x.write(0, 5, 0, 1, 0, true, -99);
        x.write(5, 0, 2, 99, 1, true, 99);
        int[][] due = {{0, 5, 0, 1, 0, 1, -99, 0, 0, 0, -1, 0, -1, 0, 0}, {5, 0, 2, 99, 1, 1, 99, 0, 0, 5, -1, 0, -1, 0, 1}};
        for (int message = 0; message < 2; message++) {
            for (int what = 0; what <= 14; what++) {
                Due.is("ofMessage(" + message + ", " + what + ")", x.ofMessage(message, what), due[message][what]);
            }
        }
    }

    /** "A REPORT tells what the STATE of its DESK is as it is written"; its argument has its bounds all the same. */
    private static void valueOfReports() {
        Fieldwire x = Made.far(2);
        x.state(0, -99);
        x.write(0, 1, 0, 1, 0, false, 99);
        x.state(0, 99);
        x.write(0, 1, 0, 1, 0, false, -99);
        x.state(0, 0);
        Due.is("the smallest state", x.ofMessage(0, 6), -99);
        Due.is("the greatest state", x.ofMessage(1, 6), 99);
        Due.noArgument("a report of 100", x, () -> x.write(0, 1, 0, 1, 0, false, 100));
        Due.noArgument("a report of -100", x, () -> x.write(0, 1, 0, 1, 0, false, -100));
    }

    /** "Each DESK sends what WAITS there by RANK, then by ORIGIN, then by number." */
    private static void sendingByRankOriginNumber() {
        Fieldwire x = Made.far(2);
        for (int rank = 2; rank >= 0; rank--) {
            x.write(0, 1, rank, 1, 0, false, 0);
            x.write(0, 1, rank, 1, 0, false, 0);
        }
        x.pass(1);
        for (int rank = 2; rank >= 0; rank--) {
            x.write(0, 1, rank, 1, 0, false, 0);
        }
        x.wire(0, 1, false);
        int[] order = {4, 5, 8, 2, 3, 7, 0, 1, 6};
        for (int message : order) {
            x.pass(1);
            Due.is("the next one", x.ofWire(0, 6), message);
        }
        // one that is written again has the greatest number, but the ORIGIN of before
        Fieldwire y = Made.far(2);
        y.wire(0, 1, false);
        y.write(0, 1, 2, 1, 1, false, 0);
        y.turn(1);
        y.pass(1);
        Made.report(y, 0, 1, 1);
        y.pass(2);
        Due.is("the older ORIGIN is ahead of the smaller number", y.ofWire(0, 6), 2);
    }

    /** "As many messages as it has CORDS can go from a DESK by WIRE at a time" */
    private static void cords() {
        for (int cords = 1; cords <= 4; cords++) {
            Fieldwire x = new Fieldwire();
            x.ground(0, 63, 0, 1);
            x.desk(0, cords, 0, 0, false);
            for (int goal = 1; goal <= 5; goal++) {
                x.desk(Made.FAR[goal], 1, 0, 0, false);
                x.wire(0, goal, false);
                Made.report(x, 0, goal, 20);
            }
            Due.is("all are free", x.ofDesk(0, 2), cords);
            x.pass(1);
            Due.is("on their way", x.field(5), cords);
            Due.is("none is free", x.ofDesk(0, 2), 0);
            Due.is("would: no cord", x.would(cords), -1);
            Due.is("its wire carries nothing", x.ofWire(cords, 6), -1);
            x.pass(1);
            Due.is("a minute ahead", x.field(6), 0);
            x.pass(1);
            Due.is("they came", x.field(6), cords);
            Due.is("and the next ones go in the same minute", x.field(5), Math.min(cords, 5 - cords));
            Due.is("free cords", x.ofDesk(0, 2), Math.max(0, 2 * cords - 5));
        }
    }

    /** "(what comes to it needs none)" */
    private static void comingNeedsNoCord() {
        Fieldwire x = Made.far(6);
        for (int from = 1; from <= 5; from++) {
            x.wire(0, from, false);
            Made.report(x, from, 0, 99);
        }
        x.pass(1);
        Due.is("five come", x.field(5), 5);
        Made.report(x, 0, 5, 99);
        x.pass(1);
        Due.is("its own waits for its wire", x.ofMessage(5, 8), 0);
        Due.is("not for its cord", x.ofDesk(0, 2), 1);
        x.pass(4);
        Due.is("all are there", x.ofDesk(0, 11), 5);
        Due.is("its own goes", x.ofMessage(5, 8), 1);
    }

    /** "WORDS / 20 + 1 MINUTES (twice that with CODE 1)" */
    private static void wireMinutes() {
        int[][] due = {{1, 1}, {19, 1}, {20, 2}, {39, 2}, {40, 3}, {59, 3}, {60, 4}, {79, 4}, {80, 5}, {99, 5}};
        for (int[] row : due) {
            for (int code = 0; code <= 1; code++) {
                Fieldwire x = Made.far(2);
                x.wire(1, 0, true);
                x.write(0, 1, 2, row[0], code, false, 0);
                int minutes = row[1] * (code + 1);
                Due.is("delay of " + row[0] + " words", x.delay(0, 1, row[0], code), minutes);
                x.pass(1);
                Due.is(row[0] + " words by wire", x.ofMessage(0, 11), minutes);
                Made.pass(x, minutes - 1);
                Due.is("one minute is left", x.ofMessage(0, 11), 1);
                x.pass(1);
                Due.is("when it came", x.ofMessage(0, 12), 1 + minutes);
            }
        }
    }

    /** "the one of the fewest WIRES .. whatever WIRES carry" */
    private static void fewestWires() {
        Fieldwire x = Made.far(4);
        x.wire(0, 1, false);
        x.wire(1, 3, false);
        x.wire(0, 3, false);
        Made.report(x, 3, 0, 99);
        x.pass(1);
        Made.report(x, 0, 3, 1);
        Due.is("by the short one", x.ofWire(2, 6), 0);
        Due.is("it waits for that", x.would(1), -1);
        x.pass(1);
        Due.is("and does not go round about", x.ofMessage(1, 8), 0);
        Due.is("route", x.route(0, 3), 3);
        x.shell(16);
        Due.is("without the short one", x.would(1), 0);
        x.pass(1);
        Due.is("round about", x.tell(1), "1: report 0>3 by wire to 1");

        // five wires are the most that a way has
        Fieldwire y = Made.far(6);
        for (int desk = 0; desk < 5; desk++) {
            y.wire(desk + 1, desk, false);
        }
        Made.report(y, 0, 5, 1);
        for (int desk = 0; desk < 5; desk++) {
            Due.is("at " + desk, y.ofMessage(0, 9), desk == 0 ? 0 : desk - 1);
            Due.is("route(" + desk + ", 5)", y.route(desk, 5), desk + 1);
            y.pass(1);
            Due.is("on its way", y.tell(0), "0: report 0>5 by wire to " + (desk + 1));
        }
        y.pass(1);
        Due.is("came", y.ofMessage(0, 12), 6);
        Due.is("the desk that it left last", y.ofMessage(0, 9), 4);
        Due.is("delay", y.delay(0, 5, 1, 0), 5);
    }

    /** "then by DESKS: the smallest number of the next DESK, and so on" */
    private static void waysByDesks() {
        Fieldwire x = Made.far(6);
        x.wire(2, 5, false);
        x.wire(0, 2, false);
        x.wire(0, 1, false);
        x.wire(1, 5, false);
        Due.is("1 is ahead of 2", x.route(0, 5), 1);
        Due.is("also from there", x.route(5, 0), 1);
        x.move(1, 50);
        Due.is("without 1", x.route(0, 5), 2);

        // 0 1 4 5 is ahead of 0 2 3 5: the first DESK that differs counts
        Fieldwire y = Made.far(6);
        y.wire(0, 2, false);
        y.wire(2, 3, false);
        y.wire(3, 5, false);
        y.wire(0, 1, false);
        y.wire(1, 4, false);
        y.wire(4, 5, false);
        Due.is("0 to 5 by 1", y.route(0, 5), 1);
        Due.is("1 to 5 by 4", y.route(1, 5), 4);
        Due.is("5 to 0 by 3", y.route(5, 0), 3);
        Due.is("3 to 0 by 2", y.route(3, 0), 2);
        y.wire(1, 3, false);
        Due.is("then 0 1 3 5", y.route(1, 5), 3);
    }

    /** "(the WHOLE one with the smallest number between both DESKS) carries nothing now" */
    private static void wireWithTheSmallestNumber() {
        Fieldwire x = new Fieldwire();
        x.ground(0, 63, 0, 1);
        x.desk(0, 4, 1, 0, false);
        x.desk(3, 1, 0, 0, false);
        x.wire(1, 0, true);
        x.wire(0, 1, false);
        x.wire(1, 0, false);
        Made.report(x, 0, 1, 99);
        Made.report(x, 0, 1, 1);
        x.pass(1);
        Due.is("the smallest number", x.ofWire(0, 6), 0);
        Due.is("the second one waits for just that", x.would(1), -1);
        x.shell(1);
        Due.is("all others are broken", x.ofCell(1, 4), 2);
        x.shell(1);
        Due.is("no way is left: a runner", x.would(1), 3);
        x.wire(0, 1, false);
        Due.is("a new one is whole", x.would(1), 0);
        x.pass(1);
        Due.is("the message of the broken one waits, then goes first", x.ofWire(3, 6), 0);
        Due.is("the other one waits", x.ofMessage(1, 8), 0);
    }

    /** "WORDS / 8 + 1 MINUTES", with CODE 1 as many */
    private static void lampMinutes() {
        int[][] due = {{1, 1}, {7, 1}, {8, 2}, {15, 2}, {16, 3}, {95, 12}, {96, 13}, {99, 13}};
        for (int[] row : due) {
            for (int code = 0; code <= 1; code++) {
                Fieldwire x = Made.desks(16, 18);
                x.write(0, 1, 2, row[0], code, false, 0);
                x.pass(1);
                Due.is("means", x.ofMessage(0, 10), 1);
                Due.is(row[0] + " words by lamp", x.ofMessage(0, 11), row[1]);
                Made.pass(x, row[1] - 1);
                Due.is("not yet", x.ofMessage(0, 8), 1);
                x.pass(1);
                Due.is("it came", x.ofMessage(0, 12), 1 + row[1]);
            }
        }
    }

    /** "SEE each other and are 5 STEPS apart at most" */
    private static void lampSteps() {
        int[][] due = {{16, 16, 1}, {16, 17, 1}, {16, 21, 1}, {16, 22, -1}, {21, 16, 1}, {22, 16, -1}, {16, 56, 1},
            {8, 56, -1}, {18, 63, 1}, {9, 63, -1}, {0, 45, 1}, {0, 46, -1}};
        for (int[] row : due) {
            Fieldwire x = Made.desks(row[0], row[1]);
            Made.report(x, 0, 1, 1);
            Due.is("a lamp from " + row[0] + " to " + row[1], x.would(0), row[2]);
            x.pass(1);
            Due.is("sent", x.ofMessage(0, 8), row[2] == 1 ? 1 : 0);
        }
        Fieldwire y = Made.desks(16, 21);
        Made.report(y, 0, 1, 1);
        y.shell(19);
        Due.is("5 steps apart, but they do not see each other", y.would(0), -1);
    }

    /** "the LAMP of this DESK is not in use (by what it sends itself)" */
    private static void lampInUse() {
        Fieldwire x = Made.desks(16, 18, 20);
        Made.report(x, 0, 1, 8);
        Made.report(x, 0, 2, 1);
        Made.report(x, 1, 0, 99);
        Made.report(x, 2, 0, 99);
        x.pass(1);
        Due.is("the first one goes", x.ofMessage(0, 8), 1);
        Due.is("the second one waits", x.ofMessage(1, 8), 0);
        Due.is("would: in use", x.would(1), -1);
        Due.is("what comes does not use it", x.field(5), 3);
        x.pass(1);
        Due.is("in use for two minutes", x.ofMessage(1, 8), 0);
        x.pass(1);
        Due.is("free in the minute in which the first one comes", x.ofMessage(1, 8), 1);
        x.pass(1);
        Due.is("it came", x.ofMessage(1, 8), 2);
    }

    /** What the DESK sends by something else does not free its LAMP as it comes. */
    private static void lampInUseAlone() {
        Fieldwire x = new Fieldwire();
        x.desk(16, 1, 0, 0, true);
        x.desk(18, 1, 0, 0, true);
        x.desk(20, 1, 0, 0, false);
        Made.pass(x, 360);
        x.wire(0, 2, false);
        x.birds(0, 1, 1);
        Made.report(x, 0, 1, 99);
        x.pass(1);
        Due.is("by lamp", x.ofMessage(0, 10), 1);
        Made.report(x, 0, 2, 1);
        x.write(0, 1, 0, 1, 0, false, 0);
        Made.report(x, 0, 1, 1);
        x.fly(3);
        x.pass(1);
        Due.is("by wire", x.ofMessage(1, 10), 0);
        Due.is("by radio", x.ofMessage(2, 10), 2);
        x.pass(1);
        Due.is("both came", x.ofMessage(1, 8) + x.ofMessage(2, 8), 4);
        Made.report(x, 0, 1, 1);
        Due.is("the lamp is in use", x.would(4), -1);
        x.pass(1);
        Due.is("the bird came", x.ofMessage(3, 8), 2);
        Due.is("the lamp is in use", x.would(4), -1);
        x.pass(9);
        Due.is("for 13 minutes", x.ofMessage(0, 11), 1);
        Due.is("the lamp is in use", x.would(4), -1);
        x.pass(1);
        Due.is("then it is free", x.ofMessage(4, 10), 1);
    }

    /** Two DESKS with SETS in woods. */
    private static Fieldwire onAir(int many) {
        Fieldwire x = new Fieldwire();
        x.ground(0, 63, 0, 1);
        for (int desk = 0; desk < many; desk++) {
            x.desk(Made.FAR[desk], 1, 0, 0, true);
        }
        return x;
    }

    private static int flash(Fieldwire x, int from, int to, int words) {
        return x.write(from, to, 0, words, 0, false, 0);
    }

    /** "WORDS / 10 + 1 MINUTES", with CODE 1 as many */
    private static void radioMinutes() {
        int[][] due = {{1, 1}, {9, 1}, {10, 2}, {19, 2}, {20, 3}, {89, 9}, {90, 10}, {99, 10}};
        for (int[] row : due) {
            for (int code = 0; code <= 1; code++) {
                Fieldwire x = onAir(2);
                x.write(0, 1, 1, row[0], code, false, 0);
                x.pass(1);
                Due.is("means", x.ofMessage(0, 10), 2);
                Due.is(row[0] + " words by radio", x.ofMessage(0, 11), row[1]);
                Made.pass(x, row[1]);
                Due.is("it came", x.ofMessage(0, 12), 1 + row[1]);
                Due.is("as many minutes of the battery", x.ofDesk(0, 5), 60 - row[1]);
                Due.is("none of the goal's", x.ofDesk(1, 5), 60);
            }
        }
    }

    /** "both have a SET, its RANK is 0 or 1" */
    private static void radioRanksAndSets() {
        for (int sets = 0; sets < 4; sets++) {
            for (int rank = 0; rank <= 2; rank++) {
                Fieldwire x = new Fieldwire();
                x.ground(0, 63, 0, 1);
                x.desk(0, 1, 0, 0, sets % 2 == 1);
                x.desk(3, 1, 0, 0, sets / 2 == 1);
                x.write(0, 1, rank, 1, 0, false, 0);
                int due = sets == 3 && rank <= 1 ? 2 : -1;
                Due.is("sets " + sets + ", rank " + rank, x.would(0), due);
                x.pass(1);
                Due.is("sent", x.ofMessage(0, 10), due);
                Due.is("battery", x.ofDesk(0, 5), sets % 2 == 1 ? 60 : -1);
            }
        }
    }

    /** "no other message is on the air (from anywhere)" */
    private static void oneOnTheAir() {
        Fieldwire x = onAir(4);
        flash(x, 0, 1, 10);
        flash(x, 0, 2, 1);
        flash(x, 2, 3, 1);
        flash(x, 1, 0, 1);
        x.pass(1);
        for (int message = 1; message <= 3; message++) {
            Due.is("the air is taken for " + message, x.would(message), -1);
        }
        x.pass(1);
        Due.is("one yet", x.field(5), 1);
        x.pass(1);
        Due.is("the next one in the minute in which it comes", x.ofMessage(1, 8), 1);
        Due.is("one alone", x.field(5), 1);
        x.pass(1);
        Due.is("then by desks", x.ofMessage(3, 8), 1);
        x.pass(1);
        Due.is("then by desks", x.ofMessage(2, 8), 1);
    }

    /** "the battery of this SET is not empty (60 MINUTES at first)", "0 at least" */
    private static void batteryNotEmpty() {
        Fieldwire x = onAir(2);
        for (int k = 0; k < 8; k++) {
            flash(x, 0, 1, 99);
        }
        flash(x, 1, 0, 1);
        Due.is("at first", x.ofDesk(0, 5), 60);
        for (int minute = 1; minute <= 60; minute++) {
            x.pass(1);
            Due.is("battery at " + minute, x.ofDesk(0, 5), 61 - minute);
        }
        Due.is("1 is not empty", x.ofMessage(5, 11), 1);
        x.pass(1);
        Due.is("0 is", x.ofDesk(0, 5), 0);
        Due.is("with its last minute to go it waits again", x.tell(5), "5: report 0>1 waits at 0");
        Due.is("it cannot be sent", x.would(5), -1);
        Due.is("the other one's is full", x.ofMessage(8, 8), 1);
        x.pass(1);
        Due.is("1 more", x.ofDesk(0, 5), 1);
        Due.is("the other one came", x.ofMessage(8, 8), 2);
        Due.is("with 1 it is sent", x.ofMessage(5, 11), 10);
        x.pass(1);
        Due.is("0, not below", x.ofDesk(0, 5), 0);
        Due.is("kept", x.ofMessage(5, 8), 0);
        Due.is("isSound()", x.isSound(), true);
        x.pass(1);
        Due.is("1 again", x.ofDesk(0, 5), 1);
    }

    /** "otherwise 1 more (60 at most ..)" */
    private static void batterySixtyAtMost() {
        Fieldwire x = onAir(2);
        x.pass(1);
        Due.is("60 at most", x.ofDesk(0, 5), 60);
        flash(x, 0, 1, 10);
        x.pass(1);
        Due.is("60 as it is sent", x.ofDesk(0, 5), 60);
        x.pass(1);
        Due.is("59", x.ofDesk(0, 5), 59);
        x.pass(1);
        Due.is("58 in the minute in which it comes", x.ofDesk(0, 5), 58);
        x.pass(1);
        Due.is("1 more", x.ofDesk(0, 5), 59);
        x.pass(1);
        Due.is("60", x.ofDesk(0, 5), 60);
        x.pass(1);
        Due.is("60 at most", x.ofDesk(0, 5), 60);
        Due.is("without a SET", Made.desks(0).ofDesk(0, 5), -1);
    }

    /** "RUNNER: if there is no way by WIRE (whatever carries something), and one is here" */
    private static void runnerOnlyWithoutAWay() {
        Fieldwire x = new Fieldwire();
        x.ground(0, 63, 0, 1);
        x.desk(0, 1, 1, 0, false);
        x.desk(3, 1, 0, 0, false);
        x.wire(0, 1, false);
        Made.report(x, 1, 0, 99);
        x.pass(1);
        Made.report(x, 0, 1, 1);
        x.pass(1);
        Due.is("the way carries something", x.would(1), -1);
        Due.is("the runner stays", x.ofDesk(0, 3), 1);
        x.shell(2);
        Due.is("no way", x.would(1), 3);
        Due.is("none is there", x.would(0), -2);
        x.pass(1);
        Due.is("he goes", x.ofMessage(1, 10), 3);
        Due.is("he is not there", x.ofDesk(0, 3), 0);
        Due.is("the other one waits: none is here", x.would(0), -1);
    }

    /** A DESK of 9 RUNNERS sends nine at a time and no tenth one. */
    private static void runnersOneByOne() {
        Fieldwire x = new Fieldwire();
        x.ground(0, 63, 0, 1);
        x.desk(0, 1, 9, 0, false);
        x.desk(3, 1, 0, 0, false);
        for (int k = 0; k < 10; k++) {
            Made.report(x, 0, 1, 99);
        }
        x.pass(1);
        Due.is("nine go", x.field(5), 9);
        Due.is("none is left", x.ofDesk(0, 3), 0);
        Due.is("the tenth one waits", x.ofMessage(9, 8), 0);
        x.pass(17);
        Due.is("3 woods take 18 minutes", x.field(6), 0);
        x.pass(1);
        Due.is("nine came", x.field(6), 9);
        Due.is("nine are there", x.ofDesk(1, 3), 9);
        Due.is("the tenth one waits", x.ofMessage(9, 8), 0);
        Due.is("isSound()", x.isSound(), true);
    }

    /** "if it is at that CELL by then, otherwise he and the message are LOST" */
    private static void runnersGoal() {
        for (int way = 0; way < 4; way++) {
            Fieldwire x = new Fieldwire();
            x.ground(0, 63, 0, 1);
            x.desk(0, 1, 1, 0, false);
            x.desk(2, 1, 0, 0, false);
            x.desk(2, 1, 0, 0, false);
            Made.report(x, 0, 1, 1);
            x.pass(1);
            x.pass(11);
            Due.is("one minute is left", x.ofMessage(0, 11), 1);
            if (way > 0) {
                x.move(way == 3 ? 0 : 1, 60);
            }
            if (way == 2) {
                x.move(1, 2);
            }
            x.pass(1);
            // another DESK at that CELL does not help
            Due.is("way " + way, x.ofMessage(0, 8), way == 1 ? 3 : 2);
            Due.is("runners lost", x.field(15), way == 1 ? 1 : 0);
            Due.is("there", x.ofDesk(1, 3), way == 1 ? 0 : 1);
            Due.is("when it came", x.ofMessage(0, 12), way == 1 ? -1 : 13);
            Due.is("nothing is left", x.ofMessage(0, 11), 0);
            Due.is("isSound()", x.isSound(), true);
        }
        // from the same CELL, 1 MINUTE, with its goal away by then
        Fieldwire y = new Fieldwire();
        y.desk(9, 1, 1, 0, false);
        y.desk(9, 1, 0, 0, false);
        y.shell(9);
        Made.report(y, 0, 1, 99);
        y.pass(1);
        y.move(1, 10);
        y.pass(1);
        Due.is("lost", y.ofMessage(0, 8), 3);
        Due.is("runners lost", y.field(15), 1);
    }

    private static Fieldwire byDay(int many) {
        Fieldwire x = Made.far(many);
        Made.pass(x, 360);
        return x;
    }

    /** "(at most 9 for each home ..)" */
    private static void nineBirds() {
        Fieldwire x = byDay(6);
        for (int home = 1; home <= 5; home++) {
            Due.is("none at first", x.ofBirds(0, home), 0);
            Due.is("nine of each home", x.birds(0, home, 9), 0);
        }
        for (int home = 1; home <= 5; home++) {
            Due.is("nine are there", x.ofBirds(0, home), 9);
            Due.is("none here", x.ofBirds(home, 0), 0);
        }
        Due.is("none of its own", x.ofBirds(0, 0), 0);
        for (int k = 0; k < 10; k++) {
            Made.report(x, 0, 5, 99);
        }
        for (int k = 0; k < 9; k++) {
            Due.is("fly", x.fly(k), 7);
            Due.is("left", x.ofBirds(0, 5), 8 - k);
        }
        Due.noState("the tenth one", x, () -> x.fly(9));
        Due.is("those of another home", x.ofBirds(0, 4), 9);
        x.pass(7);
        Due.is("all came", x.field(6), 9);
    }

    /** "brought anew, they are that many, and those of before are none" */
    private static void birdsBroughtAnew() {
        Fieldwire x = byDay(2);
        Due.is("the first ones", x.birds(0, 1, 9), 0);
        Due.is("fewer", x.birds(0, 1, 1), 9);
        Due.is("as many", x.birds(0, 1, 1), 1);
        Made.report(x, 0, 1, 1);
        Made.report(x, 0, 1, 1);
        x.fly(0);
        Due.is("it is gone", x.birds(0, 1, 0), 0);
        Due.noState("none", x, () -> x.fly(1));
        Due.is("more", x.birds(0, 1, 9), 0);
        Due.is("nine", x.ofBirds(0, 1), 9);
    }

    /** "a message that WAITS at the DESK, for just that home, not by NIGHT" */
    private static void birdsByDay() {
        int[][] due = {{1, 0}, {359, 0}, {360, 1}, {361, 1}, {1139, 1}, {1140, 0}, {1799, 0}, {1800, 1}, {2579, 1},
            {2580, 0}};
        for (int[] row : due) {
            Fieldwire x = Made.far(3);
            x.birds(0, 1, 1);
            Made.report(x, 0, 1, 1);
            Made.report(x, 0, 2, 1);
            Made.pass(x, row[0]);
            Due.noState("for another home", x, () -> x.fly(1));
            if (row[1] == 1) {
                Due.is("fly at " + row[0], x.fly(0), 4);
                Due.noState("it does not wait", x, () -> x.fly(0));
                x.pass(4);
                Due.is("it comes, by night too", x.ofMessage(0, 8), 2);
                Due.noState("it came", x, () -> x.fly(0));
            } else {
                Due.noState("fly at " + row[0], x, () -> x.fly(0));
            }
        }
    }

    /** "LOST then, if its home has moved since this BIRD was brought (also if it came back)" */
    private static void birdsOfAHomeThatMoved() {
        String[] told = {"never", "ahead of the bringing", "ahead of the flight", "under way", "and came back",
            "under way, and came back", "the other desk moved", "brought anew", "brought anew while it flies"};
        boolean[] isLost = {false, false, true, true, true, true, false, false, true};
        for (int way = 0; way < told.length; way++) {
            Fieldwire x = byDay(2);
            Made.report(x, 0, 1, 1);
            if (way == 1) {
                x.move(1, 4);
            }
            x.birds(0, 1, 2);
            if (way == 2 || way == 4 || way == 7) {
                x.move(1, 4);
            }
            if (way == 4) {
                x.move(1, 3);
            }
            if (way == 6) {
                x.move(0, 8);
            }
            if (way == 7) {
                x.birds(0, 1, 2);
            }
            int minutes = x.fly(0);
            Due.is("minutes, " + told[way], minutes, way == 1 || way == 2 || way == 7 ? 5 : 4);
            if (way == 3 || way == 5 || way == 8) {
                x.move(1, 4);
            }
            if (way == 5) {
                x.move(1, 3);
            }
            if (way == 8) {
                x.birds(0, 1, 2);
            }
            Made.pass(x, minutes - 1);
            Due.is("on its way, " + told[way], x.ofMessage(0, 8), 1);
            x.pass(1);
            Due.is("then, " + told[way], x.ofMessage(0, 8), isLost[way] ? 3 : 2);
            Due.is("birds left", x.ofBirds(0, 1), way == 8 ? 2 : 1);
        }
    }

    /** "a message by WIRE whose WIRE is not WHOLE or is DEAD .. WAITS again where it came from" */
    private static void wireIsKept() {
        for (int way = 0; way < 4; way++) {
            Fieldwire x = Made.far(3);
            x.wire(0, 1, false);
            x.wire(1, 2, false);
            Made.report(x, 0, 2, 20);
            x.pass(4);
            Due.is("one minute is left", x.ofMessage(0, 11), 1);
            if (way == 0) {
                x.shell(4);
            } else {
                // the first WIRE does not matter any more
                x.move(way - 1, 60);
            }
            Due.is("not before its turn", x.tell(0), "0: report 0>2 by wire to 2");
            Due.is("its cord is in use", x.ofDesk(1, 2), 0);
            Due.is("its wire carries it", x.ofWire(1, 6), 0);
            x.pass(1);
            Due.is("way " + way, x.tell(0), way == 1 ? "0: report 0>2 came" : "0: report 0>2 waits at 1");
            Due.is("nothing is left", x.ofMessage(0, 11), 0);
            Due.is("its cord is free", x.ofDesk(1, 2), 1);
            Due.is("its wire is too", x.ofWire(1, 6), -1);
        }
    }

    /** "one by LAMP whose DESKS (where they are by now) do not SEE each other or are more than 5 STEPS apart" */
    private static void lampIsKept() {
        int[][] due = {{0, 16, 2}, {0, 17, 2}, {1, 21, 2}, {1, 22, 0}, {0, 15, 2}, {0, 60, 2}, {1, 61, 2}, {1, 62, 0}, {1, 59, 2},
            {0, 63, 2}};
        for (int[] row : due) {
            Fieldwire x = Made.desks(18, 20);
            x.move(0, 16);
            Made.report(x, 0, 1, 1);
            x.pass(1);
            if (x.ofDesk(row[0], 0) != row[1]) {
                x.move(row[0], row[1]);
            }
            x.pass(1);
            Due.is("with desk " + row[0] + " at " + row[1], x.ofMessage(0, 8), row[2]);
        }
        Fieldwire y = Made.desks(16, 20);
        Made.report(y, 0, 1, 99);
        y.pass(1);
        y.ground(17, 17, 1, 0);
        y.pass(1);
        Due.is("a height between", y.tell(0), "0: report 0>1 waits at 0");
        y.ground(17, 17, 0, 0);
        y.pass(1);
        Due.is("sent from the start", y.ofMessage(0, 11), 13);
    }

    /** "one by RADIO while the air is JAMMED"; "nothing is sent by RADIO so long" */
    private static void radioIsKept() {
        Fieldwire x = onAir(2);
        flash(x, 0, 1, 99);
        x.jam(1);
        Due.is("jammed now", x.would(0), -1);
        x.pass(1);
        Due.is("over as the minute begins", x.ofMessage(0, 8), 1);
        x.jam(1);
        x.pass(1);
        Due.is("goes on", x.ofMessage(0, 11), 9);
        x.jam(2);
        x.pass(1);
        Due.is("kept", x.tell(0), "0: report 0>1 waits at 0");
        Due.is("one minute of it", x.field(9), 1);
        x.pass(1);
        Due.is("sent anew", x.ofMessage(0, 11), 10);
        x.jam(240);
        x.jam(0);
        x.pass(1);
        Due.is("jam(0) ends it", x.ofMessage(0, 11), 9);
        x.jam(240);
        x.pass(239);
        Due.is("the last minute of 240", x.field(9), 1);
        Due.is("it waits", x.ofMessage(0, 8), 0);
        x.pass(1);
        Due.is("none is left", x.field(9), 0);
        Due.is("sent", x.ofMessage(0, 8), 1);
    }

    /** "WAITS again where it came from", and the battery "of its DESK": those of the DESK that sends, not of the first one. */
    private static void radioFromADeskBetween() {
        Fieldwire x = new Fieldwire();
        x.ground(0, 63, 0, 1);
        x.desk(56, 1, 0, 0, true);
        x.desk(59, 1, 0, 0, true);
        x.desk(63, 1, 0, 0, true);
        x.wire(0, 1, false);
        x.wire(1, 2, false);
        x.write(0, 2, 0, 30, 0, false, 0);
        x.pass(1);
        x.shell(61);
        x.pass(2);
        Due.is("by radio from 1", x.tell(0), "0: report 0>2 by radio to 2");
        x.pass(1);
        Due.is("the battery of 1", x.ofDesk(1, 5), 59);
        Due.is("that of 0", x.ofDesk(0, 5), 60);
        x.jam(2);
        x.pass(1);
        Due.is("kept at 1", x.tell(0), "0: report 0>2 waits at 1");
        x.jam(0);
        x.pass(5);
        Due.is("it came", x.ofMessage(0, 8), 2);
        Due.is("the desk that it left last", x.ofMessage(0, 9), 1);
    }

    /** "a DESK's BOOK is 1 more (9, then 1)" */
    private static void bookNineThenOne() {
        Fieldwire x = Made.far(2);
        Due.is("1 at first", x.ofDesk(0, 7), 1);
        for (int turns = 1; turns <= 18; turns++) {
            int due = turns % 9 + 1;
            Due.is("turn " + turns, x.turn(0), due);
            Due.is("book", x.ofDesk(0, 7), due);
            x.write(0, 1, 0, 1, 1, false, 0);
            Due.is("a message's", x.ofMessage(turns - 1, 14), due);
            Due.is("the other desk's", x.ofDesk(1, 7), 1);
        }
    }

    /** "it can be read, if the goal has the same BOOK" as that with which it was written */
    private static void bookAsItIsWritten() {
        // turns of the first DESK ahead of the writing, behind it, and of the goal; whether it is read
        int[][] due = {{0, 0, 0, 1}, {1, 0, 0, 0}, {0, 1, 0, 1}, {0, 0, 1, 0}, {1, 0, 1, 1}, {9, 0, 0, 1}, {0, 0, 9, 1},
            {8, 0, 0, 0}, {0, 9, 8, 0}, {8, 1, 8, 1}, {8, 1, 9, 0}, {10, 0, 1, 1}};
        for (int[] row : due) {
            for (int code = 0; code <= 1; code++) {
                Fieldwire x = Made.far(2);
                x.wire(0, 1, false);
                turn(x, 0, row[0]);
                x.write(0, 1, 0, 1, code, false, 0);
                turn(x, 0, row[1]);
                turn(x, 1, row[2]);
                x.pass(code == 0 ? 2 : 3);
                boolean isRead = code == 0 || row[3] == 1;
                String told = "turns " + row[0] + " " + row[1] + " " + row[2] + " with code " + code;
                Due.is(told, x.ofMessage(0, 8), isRead ? 2 : 4);
                Due.is(told + ": read", x.ofDesk(1, 11), isRead ? 1 : 0);
                Due.is(told + ": garbled", x.ofDesk(1, 12), isRead ? 0 : 1);
                Due.is(told + ": believed", x.belief(1, 0, 1), isRead ? 0 : -1);
                Due.is(told + ": written again", x.field(3), isRead ? 1 : 2);
                Due.is(told + ": when", x.ofMessage(0, 12), code == 0 ? 2 : 3);
            }
        }
    }

    private static void turn(Fieldwire x, int desk, int times) {
        for (int k = 0; k < times; k++) {
            x.turn(desk);
        }
    }

    /** "(if there are 24 already, it is not)" */
    private static void garbledAmongTwentyFour() {
        for (int written = 22; written <= 24; written++) {
            Fieldwire x = Made.far(4);
            x.wire(0, 1, false);
            x.wire(2, 1, false);
            x.turn(1);
            x.write(2, 1, 0, 1, 1, false, 0);
            x.write(0, 1, 0, 1, 1, false, 0);
            while (x.field(3) < written) {
                Made.report(x, 3, 0, 1);
            }
            x.pass(3);
            Due.is("two are garbled", x.field(8), 2);
            Due.is("messages", x.field(3), 24);
            if (written <= 23) {
                Due.is("the one with the smaller number is written again", x.ofMessage(written, 0), 2);
            }
            if (written == 22) {
                Due.is("the other one too", x.ofMessage(23, 0), 0);
            }
            Due.is("on their way", x.field(5), 24 - written);
            Due.is("isSound()", x.isSound(), true);
            Due.noState("no more", x, () -> Made.report(x, 3, 0, 1));
            x.pass(2);
            Due.is("garbled once more, but not written", x.field(8), 26 - written);
            Due.is("messages", x.field(3), 24);
        }
    }

    /** "written again at once at its first DESK with the BOOK of now .. the same RANK, WORDS, CODE, KIND, VALUE, ORIGIN" */
    private static void garbledAtItsFirstDesk() {
        Fieldwire x = Made.far(3);
        x.wire(0, 1, false);
        x.wire(1, 2, false);
        x.state(0, 7);
        x.pass(5);
        x.write(0, 2, 1, 19, 1, true, -7);
        turn(x, 0, 8);
        x.turn(2);
        x.pass(4);
        Due.is("on the last wire", x.tell(0), "0: order 0>2 by wire to 2");
        x.pass(1);
        Due.is("garbled", x.tell(0), "0: order 0>2 garbled");
        Due.is("written again and sent in the same minute", x.tell(1), "1: order 0>2 by wire to 1");
        int[] due = {0, 2, 1, 19, 1, 1, -7, 5, 1, 0, 0, 2, -1, 0, 9};
        for (int what = 0; what <= 14; what++) {
            Due.is("ofMessage(1, " + what + ")", x.ofMessage(1, what), due[what]);
        }
        Due.is("the first one's minute", x.ofMessage(0, 12), 10);
        Due.is("its book", x.ofMessage(0, 14), 1);
        Due.is("not carried out", x.ofDesk(2, 9) + x.ofDesk(2, 10), 0);
    }

    /** "Returns the set of those that it has (2^number of each)": 1 the first, 9 the last, all. */
    private static void captured() {
        Fieldwire x = Made.far(2);
        Due.is("the first book", x.capture(1), 2);
        Due.is("once more", x.capture(1), 2);
        Due.is("the last book", x.capture(9), 514);
        int set = 514;
        for (int book = 2; book <= 8; book++) {
            set += 1 << book;
            Due.is("book " + book, x.capture(book), set);
        }
        Due.is("all", x.capture(5), 1022);
        // "with a BOOK that it has CAPTURED (by now, also later than it HEARD it)"
        for (int book = 1; book <= 9; book++) {
            Fieldwire y = onAir(2);
            turn(y, 0, book - 1);
            turn(y, 1, book - 1);
            y.write(0, 1, 0, 1, 1, false, 0);
            y.capture(book % 9 + 1);
            y.pass(2);
            Due.is("another book", y.ofMessage(0, 13), 1);
            Due.is("read ones", y.field(12), 0);
            y.capture(book);
            Due.is("book " + book, y.ofMessage(0, 13), 2);
            Due.is("heard ones", y.field(11), 1);
            Due.is("read ones", y.field(12), 1);
        }
    }

    /** "all that goes by RADIO" is HEARD, without a POST too; what is HEARD "with CODE 0" is READ */
    private static void heardByRadio() {
        Fieldwire x = onAir(2);
        flash(x, 0, 1, 1);
        x.write(1, 0, 2, 1, 0, false, 0);
        Due.is("not as it waits", x.ofMessage(0, 13), 0);
        x.pass(1);
        Due.is("as it is sent", x.ofMessage(0, 13), 2);
        Due.is("what waits is not", x.ofMessage(1, 13), 0);
        Due.is("heard ones", x.field(11), 1);
    }

    /** "if the DESK that sends is in row 0 or 1, or its CELL and the POST .. SEE each other" */
    private static void heardByLamp() {
        int[][] due = {{0, -1, 2}, {7, -1, 2}, {8, -1, 2}, {15, -1, 2}, {16, -1, 0}, {63, -1, 0}, {16, 16, 2}, {16, 63, 2},
            {63, 16, 2}, {18, 0, 0}, {24, 0, 2}, {26, 0, 0}, {17, 0, 0}};
        for (int[] row : due) {
            Fieldwire x = Made.desks(row[0], row[0]);
            x.ground(9, 9, 1, 0);
            x.post(row[1]);
            Due.is("heard(0) at " + row[0] + " by the post " + row[1], x.heard(0), row[2]);
            Made.report(x, 0, 1, 1);
            x.pass(1);
            Due.is("by lamp", x.ofMessage(0, 10), 1);
            Due.is("its message", x.ofMessage(0, 13), row[2]);
        }
        // the goal in row 1 does not count, nor does the POST in sight of the goal alone
        Fieldwire y = Made.desks(16, 8);
        y.ground(17, 17, 9, 1);
        y.post(18);
        y.ground(9, 9, 9, 1);
        Made.report(y, 0, 1, 1);
        Made.report(y, 1, 0, 1);
        y.pass(1);
        Due.is("from row 2", y.ofMessage(0, 13), 0);
        Due.is("from row 1", y.ofMessage(1, 13), 2);
    }

    /** "the DESK that sends": not the first one, if it is another one. */
    private static void heardByLampFromADeskBetween() {
        for (int first = 0; first <= 1; first++) {
            // desk 0 is in row 0, desk 1 and the goal in row 2
            Fieldwire x = Made.desks(7, 23, 19);
            x.wire(0, 1, false);
            x.wire(1 - first, 2, false);
            Made.report(x, first, 2, 20);
            x.pass(1);
            Due.is("by wire", x.ofMessage(0, 10), 0);
            x.shell(20);
            x.pass(2);
            Due.is("it waits between", x.tell(0), "0: report " + first + ">2 waits at " + (1 - first));
            x.pass(3);
            Due.is("by lamp, as the smoke is gone", x.ofMessage(0, 10), 1);
            Due.is("heard from row 0 alone", x.ofMessage(0, 13), first == 0 ? 0 : 2);
        }
    }

    /** "a WIRE of which a CELL is 2 STEPS or less from the POST and is not BURIED" */
    private static void heardByWire() {
        for (int post = -1; post < 64; post++) {
            for (int buried = 0; buried <= 1; buried++) {
                Fieldwire x = Made.inWoods(32, 35);
                x.wire(0, 1, buried == 1);
                x.post(post);
                int row = post / 8;
                int column = post % 8;
                boolean isNear = post >= 0 && row >= 2 && row <= 6 && column <= 5;
                int due = isNear && buried == 0 ? 1 : 0;
                Due.is("heard(0) by the post " + post, x.heard(0) & 1, due);
                Due.is("heard(1) by the post " + post, x.heard(1) & 1, due);
                Made.report(x, 0, 1, 1);
                x.pass(1);
                Due.is("its message", x.ofMessage(0, 13), due * 2);
            }
        }
        // each CELL as the one that is plain, and a POST at each CELL
        for (int plain = 26; plain <= 29; plain++) {
            for (int post = 0; post < 64; post++) {
                Fieldwire x = Made.inWoods(26, 29);
                x.wire(0, 1, true);
                x.shell(plain);
                x.post(post);
                boolean isNear = Math.abs(post / 8 - 3) <= 2 && Math.abs(post % 8 - plain % 8) <= 2;
                Due.is("plain at " + plain + ", the post at " + post, x.heard(0) & 1, isNear ? 1 : 0);
            }
        }
        // one CELL alone is plain
        for (int post = 48; post <= 55; post++) {
            Fieldwire y = Made.inWoods(32, 39);
            y.wire(0, 1, true);
            y.shell(35);
            y.post(post);
            Due.is("plain at 35, the post at " + post, y.heard(0), post >= 49 && post <= 53 ? 1 : 0);
        }
    }

    /** "(Asked as it is sent, each time.)" */
    private static void heardAsItIsSent() {
        Fieldwire x = Made.far(2);
        x.wire(0, 1, false);
        Made.report(x, 0, 1, 99);
        x.pass(1);
        x.post(1);
        x.pass(1);
        Due.is("told behind the sending", x.ofMessage(0, 13), 0);
        x.shell(1);
        x.wire(0, 1, false);
        x.pass(1);
        Due.is("sent once more", x.ofMessage(0, 13), 2);
        x.post(-1);
        x.shell(1);
        x.wire(0, 1, false);
        x.pass(1);
        Due.is("it stays heard", x.ofMessage(0, 13), 2);
        Due.is("heard ones", x.field(11), 1);
    }

    /** "if that ORIGIN is later than the one of what it believed, or it believed nothing" */
    private static void reportsOfTheSameOrigin() {
        // the ORIGINS of two REPORTS as they come, and whether the second one is believed
        int[][] due = {{0, 0, 0}, {3, 3, 0}, {3, 4, 1}, {4, 3, 0}, {0, 1, 1}, {1, 0, 0}};
        for (int[] row : due) {
            Fieldwire x = Made.far(2);
            Due.is("nothing: 0", x.belief(1, 0, 0), 0);
            Due.is("nothing: NONE", x.belief(1, 0, 1), -1);
            Due.is("nothing is not right, though both are 0", x.belief(1, 0, 2), 0);
            for (int minute = 0; minute <= 4; minute++) {
                for (int k = 0; k < 2; k++) {
                    if (row[k] == minute) {
                        x.state(0, 50 + k);
                        x.write(0, 1, k, 1, 0, false, 0);
                    }
                }
                x.pass(1);
            }
            x.wire(0, 1, false);
            x.pass(2);
            Due.is("the first one", x.belief(1, 0, 0), 50);
            Due.is("its age", x.belief(1, 0, 1), row[0]);
            x.pass(1);
            Due.is("the second one", x.belief(1, 0, 0), 50 + row[2]);
            Due.is("its age", x.belief(1, 0, 1), Math.max(row[0], row[1]));
            Due.is("both came", x.ofDesk(1, 11), 2);
            Due.is("not the other way", x.belief(0, 1, 1), -1);
        }
    }

    /** "if its ORIGIN is later than that of the last ORDER carried out there (or there was none) .. otherwise .. LATE" */
    private static void ordersOfTheSameOrigin() {
        int[][] due = {{0, 0, 0}, {3, 3, 0}, {3, 4, 1}, {4, 3, 0}, {0, 1, 1}, {1, 0, 0}};
        for (int[] row : due) {
            for (int other = 0; other <= 2; other += 2) {
                Fieldwire x = Made.far(3);
                Due.is("none: NONE", x.ofDesk(1, 13), -1);
                for (int minute = 0; minute <= 4; minute++) {
                    for (int k = 0; k < 2; k++) {
                        if (row[k] == minute) {
                            x.write(k == 0 ? 0 : other, 1, k, 21 * k + 1, 0, true, 50 + k);
                        }
                    }
                    x.pass(1);
                }
                x.wire(0, 1, false);
                x.wire(2, 1, false);
                x.pass(2);
                Due.is("carried out", x.ofDesk(1, 6), 50);
                Due.is("its origin", x.ofDesk(1, 13), row[0]);
                Due.is("one", x.ofDesk(1, 9), 1);
                x.pass(2);
                Due.is("the second one, from " + other, x.ofDesk(1, 6), 50 + row[2]);
                Due.is("carried out", x.ofDesk(1, 9), 1 + row[2]);
                Due.is("late", x.ofDesk(1, 10), 1 - row[2]);
                Due.is("the last one's origin", x.ofDesk(1, 13), Math.max(row[0], row[1]));
                Due.is("both came and were read", x.ofDesk(1, 11), 2);
            }
        }
    }
}
