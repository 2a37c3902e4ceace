/** Sections 1 to 7: what a call, a MINUTE or another thing does not change, and what is not asked for an answer. */
public final class LeftAloneTest {
    public static void main(String[] args) {
        groundLeavesSmoke();
        shellLeavesGround();
        shellLeavesWhoIsNotUnderWay();
        moveLeavesTheDesk();
        stateLeavesWhatIsTold();
        birdsGoOnWhatever();
        runnersGoOnWhatever();
        radioGoesOnWhereverDesksAre();
        wiresGoOnThoughAnotherWayIsBetter();
        smokeThatEndsKeepsNothing();
        linesmanStandsThoughADeskMoves();
        runnersOfGarbledMessages();
        capturedButNotHeard();
        readAlsoIfLostOrGarbled();
        readByTheBookOfTheWriting();
        heardOnlyAsItIsSentAgain();
        heardWhetherItCouldSendOrNot();
        bestWithoutItself();
        delayWithNothingUnderWay();
        garbledOrdersAndReports();
        callLeavesAll();
        smokeWhateverBreaks();
        newWiresAreWhole();
        newDesksKnowNothing();
        neverHeard();
        lampHeardAsItIsSent();
        heardThroughSmoke();
        radioWhateverTheGoalDoes();
        digestCutsRight();
        Due.end("LeftAloneTest");
    }

    /** "SMOKE lies on a CELL for some MINUTES", whatever is told of the CELL. */
    private static void groundLeavesSmoke() {
        Fieldwire x = new Fieldwire();
        x.shell(10);
        x.ground(0, 63, 9, 3);
        Due.is("smoke", x.ofCell(10, 2), 5);
        x.pass(1);
        x.ground(10, 10, 0, 0);
        Due.is("a minute later", x.ofCell(10, 2), 4);
        Due.is("nowhere else", x.ofCell(11, 2), 0);
    }

    private static void shellLeavesGround() {
        Fieldwire x = new Fieldwire();
        x.ground(10, 10, 7, 2);
        x.shell(10);
        Due.is("height", x.ofCell(10, 0), 7);
        Due.is("sort", x.ofCell(10, 1), 2);
        Due.is("told again, it is no other one", x.ground(10, 10, 7, 2), 0);
    }

    /** "RUNNERS and LINESMEN under way that are at the CELL are lost": those at a DESK there are not. */
    private static void shellLeavesWhoIsNotUnderWay() {
        Fieldwire x = new Fieldwire();
        x.desk(10, 1, 9, 9, true);
        x.desk(10, 1, 9, 9, true);
        x.write(0, 1, 0, 1, 0, false, 0);
        x.shell(10);
        Due.is("runners", x.ofDesk(0, 3) + x.ofDesk(1, 3), 18);
        Due.is("linesmen", x.ofDesk(0, 4) + x.ofDesk(1, 4), 18);
        Due.is("no runner is lost", x.field(15), 0);
        Due.is("no linesman is lost", x.field(16), 0);
        Due.is("what waits there waits", x.tell(0), "0: report 0>1 waits at 0");
        Due.is("the desk is there", x.ofCell(10, 5), 2);
    }

    /** "A DESK that MOVES is at its new CELL at once": all else of it is as it was. */
    private static void moveLeavesTheDesk() {
        Fieldwire x = new Fieldwire();
        x.ground(0, 63, 0, 1);
        x.desk(56, 3, 4, 5, true);
        x.desk(59, 2, 3, 1, true);
        x.desk(63, 2, 3, 1, true);
        x.turn(0);
        x.turn(0);
        x.birds(0, 1, 6);
        x.birds(2, 0, 5);
        x.state(1, 8);
        x.write(0, 1, 0, 99, 0, false, 0);
        Made.order(x, 1, 0, -7);
        x.write(1, 0, 1, 1, 0, false, 0);
        x.write(2, 0, 2, 1, 1, true, 3);
        x.pass(43);
        Due.is("all came", x.field(6) + x.field(8), 4);
        x.write(0, 1, 1, 99, 0, false, 0);
        x.write(0, 2, 2, 99, 0, false, 0);
        x.pass(3);
        int[] before = new int[14];
        for (int what = 0; what <= 13; what++) {
            before[what] = x.ofDesk(0, what);
        }
        Due.is("its battery is not full", before[5] < 60, true);
        Due.is("its state", before[6], -7);
        Due.is("its book", before[7], 3);
        Due.is("orders carried out", before[9], 1);
        Due.is("garbled ones", before[12], 1);
        x.move(0, 0);
        for (int what = 1; what <= 13; what++) {
            Due.is("ofDesk(0, " + what + ") behind the move", x.ofDesk(0, what), before[what]);
        }
        Due.is("its birds", x.ofBirds(0, 1), 6);
        Due.is("those for it", x.ofBirds(2, 0), 5);
        Due.is("what it believes", x.belief(0, 1, 0), 8);
        Due.is("and how old that is", x.belief(0, 1, 1), 0);
        Due.is("diary", x.diary(0, 1, 46), 2);
        x.move(0, 56);
        for (int what = 0; what <= 13; what++) {
            Due.is("ofDesk(0, " + what + ") as it is back", x.ofDesk(0, what), before[what]);
        }
    }

    /** A STATE that is told makes no REPORT another one, and counts as no ORDER. */
    private static void stateLeavesWhatIsTold() {
        Fieldwire x = Made.far(2);
        x.wire(0, 1, false);
        x.state(0, 5);
        Made.report(x, 0, 1, 1);
        x.state(0, 6);
        Made.order(x, 0, 1, 4);
        x.pass(4);
        Due.is("as it was written", x.belief(1, 0, 0), 5);
        Due.is("not right", x.belief(1, 0, 2), 0);
        Due.is("none is right", x.right(1), 0.0);
        x.state(0, 5);
        Due.is("right again", x.belief(1, 0, 2), 1);
        Due.is("the only one", x.right(1), 1.0);
        Due.is("the order", x.state(1, 9), 4);
        Due.is("orders carried out", x.ofDesk(1, 9), 1);
        Due.is("the last one's origin", x.ofDesk(1, 13), 0);
        Made.order(x, 0, 1, 3);
        x.pass(2);
        Due.is("a later one is carried out", x.ofDesk(1, 6), 3);
        Due.is("two", x.ofDesk(1, 9), 2);
        Due.is("its origin", x.ofDesk(1, 13), 4);
    }

    /** A BIRD is LOST by a home that has moved alone: no JAM, SMOKE, SHELL, NIGHT or move of who let it fly keeps it. */
    private static void birdsGoOnWhatever() {
        Fieldwire x = Made.desks(0, 7);
        x.birds(0, 1, 2);
        Made.pass(x, 1132);
        x.ground(1, 6, 9, 1);
        Made.report(x, 0, 1, 99);
        Due.is("seven steps and one", x.fly(0), 8);
        x.jam(240);
        for (int cell = 0; cell <= 7; cell++) {
            x.shell(cell);
        }
        x.move(0, 63);
        x.birds(0, 1, 0);
        x.wire(0, 1, false);
        for (int left = 8; left >= 1; left--) {
            Due.is("left", x.ofMessage(0, 11), left);
            Due.is("by bird", x.tell(0), "0: report 0>1 by bird to 1");
            x.pass(1);
        }
        Due.is("it is night", x.field(13), 1);
        Due.is("it came", x.tell(0), "0: report 0>1 came");
        Due.is("then", x.ofMessage(0, 12), 1140);
        Due.is("the foe does not hear it", x.ofMessage(0, 13), 0);
    }

    /** A RUNNER goes on, though there is a way by WIRE by then, or his first DESK has moved. */
    private static void runnersGoOnWhatever() {
        Fieldwire x = new Fieldwire();
        x.ground(0, 63, 0, 1);
        x.desk(56, 1, 1, 0, true);
        x.desk(59, 1, 0, 0, true);
        Made.report(x, 0, 1, 1);
        x.pass(1);
        Due.is("three woods", x.ofMessage(0, 11), 18);
        x.wire(0, 1, false);
        x.pass(1);
        Due.is("a wire does not turn him back", x.ofMessage(0, 11), 17);
        x.move(0, 0);
        x.jam(9);
        x.pass(16);
        Due.is("a minute is left", x.ofMessage(0, 11), 1);
        x.pass(1);
        Due.is("it came", x.ofMessage(0, 8), 2);
        Due.is("he is there", x.ofDesk(1, 3), 1);
    }

    private static void radioGoesOnWhereverDesksAre() {
        Fieldwire x = new Fieldwire();
        x.ground(0, 63, 0, 1);
        x.desk(0, 1, 0, 0, true);
        x.desk(63, 1, 0, 0, true);
        x.write(0, 1, 0, 30, 0, false, 0);
        x.pass(1);
        x.move(0, 7);
        x.shell(7);
        x.shell(63);
        x.pass(1);
        x.move(1, 56);
        x.pass(2);
        Due.is("a minute is left", x.ofMessage(0, 11), 1);
        x.pass(1);
        Due.is("it came", x.ofMessage(0, 12), 5);
    }

    /** It goes to the DESK to which it was sent, by a WIRE that is WHOLE yet. */
    private static void wiresGoOnThoughAnotherWayIsBetter() {
        Fieldwire x = Made.far(3);
        x.wire(0, 1, false);
        x.wire(1, 2, false);
        Made.report(x, 0, 2, 99);
        x.pass(1);
        x.wire(0, 2, true);
        Due.is("a way of one wire", x.route(0, 2), 2);
        x.pass(4);
        Due.is("to 1", x.tell(0), "0: report 0>2 by wire to 1");
        x.pass(1);
        Due.is("and on from there", x.tell(0), "0: report 0>2 by wire to 2");
        // and though behind that there is no way at all
        Fieldwire y = Made.far(3);
        y.wire(0, 1, false);
        y.wire(1, 2, false);
        Made.report(y, 0, 2, 99);
        y.pass(1);
        y.move(2, 63);
        y.pass(4);
        Due.is("to 1 all the same", y.tell(0), "0: report 0>2 by wire to 1");
        y.pass(1);
        Due.is("where it waits", y.tell(0), "0: report 0>2 waits at 1");
    }

    /** "SMOKE is 1 less" ahead of messages too: the last MINUTE of it keeps no message by LAMP. */
    private static void smokeThatEndsKeepsNothing() {
        for (int age = 3; age <= 4; age++) {
            Fieldwire x = Made.desks(16, 18);
            Made.report(x, 0, 1, 99);
            x.shell(33);
            x.pass(age);
            x.move(1, 34);
            x.move(0, 32);
            Due.is("smoke between", x.ofCell(33, 2), 5 - age);
            Due.is("not seen now", x.sees(32, 34), false);
            x.pass(1);
            Due.is("with " + (5 - age), x.ofMessage(0, 8), age == 4 ? 1 : 0);
            Due.is("it goes on and does not start anew", x.ofMessage(0, 11), age == 4 ? 9 : 0);
        }
    }

    /** "he stands there for 10 MINUTES more (whatever others do)"; "He goes on, also if the WIRE is DEAD by then." */
    private static void linesmanStandsThoughADeskMoves() {
        for (int when = 0; when <= 14; when++) {
            Fieldwire x = new Fieldwire();
            x.desk(0, 1, 0, 1, false);
            x.desk(1, 1, 0, 0, false);
            x.wire(0, 1, false);
            x.shell(0);
            x.mend(0, 0);
            if (when > 0) {
                x.pass(when);
            }
            x.move(when % 2, 63);
            if (when < 13) {
                x.pass(13 - when);
            }
            Due.is("broken until 14, moved at " + when, x.ofWire(0, 3), when == 14 ? 0 : 1);
            x.pass(18 - x.field(0) - 1);
            Due.is("on it", x.ofWire(0, 7), 1);
            Due.is("mended", x.ofWire(0, 3), 0);
            x.pass(1);
            Due.is("at the other end at 18", x.ofDesk(1, 4), 1);
            Due.is("not on it", x.ofWire(0, 7), 0);
        }
    }

    /** "he is a RUNNER of that DESK then", also if what he carried can not be read. */
    private static void runnersOfGarbledMessages() {
        Fieldwire x = new Fieldwire();
        x.ground(0, 63, 0, 1);
        x.desk(56, 1, 2, 0, false);
        x.desk(58, 1, 0, 0, false);
        x.write(0, 1, 0, 1, 1, false, 0);
        x.turn(1);
        x.pass(13);
        Due.is("garbled", x.tell(0), "0: report 0>1 garbled");
        Due.is("he is there", x.ofDesk(1, 3), 1);
        Due.is("the next one has gone with it", x.tell(1), "1: report 0>1 by runner to 1");
        Due.is("none is left", x.ofDesk(0, 3), 0);
        Due.is("sound", x.isSound(), true);
    }

    /** "It has READ what it HEARD": a BOOK alone does not do. */
    private static void capturedButNotHeard() {
        Fieldwire x = Made.far(2);
        x.capture(1);
        x.wire(0, 1, false);
        x.write(0, 1, 0, 1, 1, false, 0);
        x.write(0, 1, 0, 1, 0, false, 0);
        x.pass(6);
        Due.is("both came", x.field(6), 2);
        Due.is("not heard", x.ofMessage(0, 13), 0);
        Due.is("nor in plain words", x.ofMessage(1, 13), 0);
        Due.is("none is heard", x.field(11), 0);
        Due.is("none is read", x.field(12), 0);
        x.post(0);
        Due.is("a post of later does not hear what is gone", x.field(11), 0);
    }

    private static void readAlsoIfLostOrGarbled() {
        Fieldwire x = new Fieldwire();
        x.desk(0, 1, 1, 0, false);
        x.desk(2, 1, 0, 0, false);
        x.write(0, 1, 0, 99, 1, false, 0);
        x.pass(1);
        Due.is("by lamp, from row 0", x.ofMessage(0, 13), 1);
        x.shell(1);
        x.pass(1);
        Due.is("kept, and by runner", x.ofMessage(0, 10), 3);
        x.shell(1);
        Due.is("lost", x.ofMessage(0, 8), 3);
        Due.is("heard", x.ofMessage(0, 13), 1);
        x.capture(1);
        Due.is("read", x.ofMessage(0, 13), 2);
        Due.is("one is", x.field(12), 1);
        Fieldwire y = Made.desks(0, 1);
        y.turn(0);
        y.write(0, 1, 0, 1, 1, false, 0);
        y.pass(2);
        Due.is("garbled", y.ofMessage(0, 8), 4);
        Due.is("its book", y.ofMessage(0, 14), 2);
        Due.is("heard", y.ofMessage(0, 13), 1);
        y.capture(1);
        Due.is("not by the book of its goal", y.ofMessage(0, 13), 1);
        y.capture(2);
        Due.is("read", y.ofMessage(0, 13), 2);
    }

    /** "with a BOOK that it has CAPTURED": that with which it is written, not that of the DESK by now. */
    private static void readByTheBookOfTheWriting() {
        Fieldwire x = Made.desks(0, 1);
        x.write(0, 1, 0, 1, 1, false, 0);
        x.turn(0);
        x.turn(1);
        x.pass(1);
        Due.is("heard", x.ofMessage(0, 13), 1);
        x.capture(2);
        Due.is("not by the book of now", x.ofMessage(0, 13), 1);
        Due.is("none is read", x.field(12), 0);
        x.capture(1);
        Due.is("by that of then", x.ofMessage(0, 13), 2);
        Due.is("one is read", x.field(12), 1);
    }

    /** "(Asked as it is sent, each time.)": what is written again is a new message, and has not been sent. */
    private static void heardOnlyAsItIsSentAgain() {
        Fieldwire x = new Fieldwire();
        x.ground(0, 63, 0, 1);
        x.desk(16, 1, 0, 0, false);
        x.desk(63, 1, 0, 0, false);
        x.wire(0, 1, false);
        x.post(16);
        x.write(0, 1, 0, 1, 1, false, 0);
        x.turn(1);
        x.pass(2);
        x.post(-1);
        x.pass(1);
        Due.is("garbled", x.ofMessage(0, 8), 4);
        Due.is("heard", x.ofMessage(0, 13), 1);
        Due.is("the new one is on its way", x.ofMessage(1, 8), 1);
        Due.is("not heard", x.ofMessage(1, 13), 0);
        Due.is("one is heard", x.field(11), 1);
    }

    /** heard(): "whether it could send so or not" */
    private static void heardWhetherItCouldSendOrNot() {
        Fieldwire x = new Fieldwire();
        x.desk(0, 1, 0, 0, true);
        x.desk(2, 1, 0, 0, true);
        x.ground(16, 63, 0, 1);
        x.desk(63, 1, 0, 0, true);
        x.wire(0, 1, false);
        x.post(0);
        Due.is("all", x.heard(0), 7);
        x.write(0, 1, 0, 99, 0, false, 0);
        x.write(0, 1, 0, 99, 0, false, 0);
        x.write(0, 2, 0, 99, 0, false, 0);
        x.pass(1);
        Due.is("its only cord is in use", x.ofDesk(0, 2), 0);
        Due.is("its lamp is in use", x.ofMessage(1, 10), 1);
        Due.is("on the air", x.ofMessage(2, 10), 2);
        Due.is("all the same", x.heard(0), 7);
        Due.is("of another one too", x.heard(1), 7);
        x.jam(9);
        Due.is("jammed", x.heard(0), 7);
        x.shell(1);
        Due.is("the wire is broken", x.heard(0), 6);
        x.post(-1);
        Due.is("in row 0", x.heard(0), 6);
        // an empty battery, in row 2 and without a POST
        Fieldwire y = new Fieldwire();
        y.ground(0, 63, 0, 1);
        y.desk(16, 1, 0, 0, true);
        y.desk(63, 1, 0, 0, true);
        for (int k = 0; k < 6; k++) {
            y.write(0, 1, 0, 99, 0, false, 0);
        }
        y.pass(61);
        Due.is("empty", y.ofDesk(0, 5), 0);
        Due.is("by radio yet", y.heard(0), 4);
    }

    /** best(): "from which most other DESKS would be SEEN": not the DESK itself. */
    private static void bestWithoutItself() {
        Fieldwire x = Made.desks(0, 63);
        // nothing but what is beside it sees the last CELL
        x.ground(54, 54, 0, 1);
        x.ground(55, 55, 0, 1);
        x.ground(62, 62, 0, 1);
        Due.is("the first cell beside it", x.best(0), 54);
        Due.is("the cell that sees 0 and is nearest to 63", x.best(1), 45);
        Fieldwire y = Made.desks(0, 63, 63);
        y.ground(8, 63, 0, 3);
        Due.is("none is seen from row 0: where it is", y.best(0), 0);
        Due.is("six cells see desk 0, each 7 steps away", y.best(1), 0);
    }

    /** delay(): "with nothing else under way" */
    private static void delayWithNothingUnderWay() {
        Fieldwire x = Made.far(3);
        x.wire(0, 1, false);
        x.wire(1, 2, false);
        int due = x.delay(0, 2, 40, 1);
        Due.is("two wires", due, 12);
        for (int k = 0; k < 4; k++) {
            Made.report(x, k % 2, 1 + k % 2, 99);
        }
        x.pass(1);
        Due.is("no cord is free", x.ofDesk(0, 2) + x.ofDesk(1, 2), 0);
        Due.is("the same", x.delay(0, 2, 40, 1), due);
        Due.is("the way is there too", x.route(0, 2), 1);
    }

    /** "otherwise it is GARBLED: it is not known there": no ORDER is carried out or too LATE by it, nothing BELIEVED. */
    private static void garbledOrdersAndReports() {
        Fieldwire x = Made.far(2);
        x.wire(0, 1, false);
        x.state(0, 4);
        x.turn(0);
        x.write(0, 1, 0, 1, 1, true, 7);
        x.write(0, 1, 0, 1, 1, false, 0);
        x.turn(0);
        x.pass(5);
        Due.is("two are garbled", x.ofDesk(1, 12), 2);
        Due.is("none is read", x.ofDesk(1, 11), 0);
        Due.is("state", x.ofDesk(1, 6), 0);
        Due.is("carried out", x.ofDesk(1, 9), 0);
        Due.is("late", x.ofDesk(1, 10), 0);
        Due.is("no origin", x.ofDesk(1, 13), -1);
        Due.is("nothing believed", x.belief(1, 0, 1), -1);
        Due.is("no page", x.diary(1, 0, 5), -1);
        x.turn(1);
        x.turn(1);
        x.pass(4);
        Due.is("written again with the book of now", x.ofMessage(2, 14), 3);
        Due.is("both can be read then", x.ofDesk(1, 11), 2);
        Due.is("carried out", x.ofDesk(1, 6), 7);
        Due.is("its origin", x.ofDesk(1, 13), 0);
        Due.is("believed", x.belief(1, 0, 0), 4);
        Due.is("by the new one", x.diary(1, 0, 9), 3);
    }

    /** "who calls her holds no plug, and is REFUSED": nothing else comes of it. */
    private static void callLeavesAll() {
        Fieldwire x = Made.far(2);
        x.wire(0, 1, false);
        Made.report(x, 0, 1, 1);
        String before = Due.all(x);
        for (int k = 1; k <= 100; k++) {
            Due.is("call", x.call(), k);
        }
        Due.is("all is as it was", Due.all(x), before);
        x.pass(1);
        Due.is("nor by a minute", x.call(), 101);
    }

    /** "SMOKE lies there for 5 MINUTES at least", also where no WIRE is BROKEN by the SHELL. */
    private static void smokeWhateverBreaks() {
        Fieldwire x = Made.desks(0, 2, 16);
        x.wire(0, 1, true);
        x.wire(0, 2, false);
        x.move(2, 24);
        Due.is("on a buried one", x.shell(1), 0);
        Due.is("smoke", x.ofCell(1, 2), 5);
        Due.is("on a dead one", x.shell(8), 0);
        Due.is("smoke", x.ofCell(8, 2), 5);
        x.pass(2);
        Due.is("on a plain one", x.shell(1), 1);
        Due.is("smoke", x.ofCell(1, 2), 5);
        x.pass(2);
        Due.is("on one that is broken there", x.shell(1), 0);
        Due.is("smoke", x.ofCell(1, 2), 5);
    }

    /** Each WIRE has CELLS of its own that can be BROKEN: a new one is laid WHOLE, in SMOKE and beside BROKEN ones too. */
    private static void newWiresAreWhole() {
        Fieldwire x = Made.desks(0, 2);
        x.wire(0, 1, false);
        x.shell(0);
        x.shell(1);
        Due.is("the new one", x.wire(0, 1, false), 1);
        Due.is("its cells", x.ofWire(1, 2), 3);
        Due.is("none is broken", x.ofWire(1, 3), 0);
        Due.is("two of the old one", x.ofWire(0, 3), 2);
        Due.is("a way", x.route(0, 1), 1);
        Due.is("through cell 1", x.ofCell(1, 3), 2);
        Due.is("broken there", x.ofCell(1, 4), 1);
        Made.report(x, 0, 1, 1);
        x.pass(1);
        Due.is("the whole one carries it", x.ofWire(1, 6), 0);
        Due.is("not the smaller number", x.ofWire(0, 6), -1);
    }

    /** A DESK told later: "the BOOK with some number (1 at first)", a battery of "60 MINUTES at first", "0 at first". */
    private static void newDesksKnowNothing() {
        Fieldwire x = Made.far(2);
        x.wire(0, 1, false);
        x.turn(0);
        x.turn(1);
        x.state(0, 5);
        Made.report(x, 0, 1, 1);
        x.pass(100);
        Due.is("its number", x.desk(63, 2, 3, 4, true), 2);
        int[] due = {63, 2, 2, 3, 4, 60, 0, 1, 0, 0, 0, 0, 0, -1};
        for (int what = 0; what <= 13; what++) {
            Due.is("ofDesk(2, " + what + ")", x.ofDesk(2, what), due[what]);
        }
        for (int other = 0; other <= 1; other++) {
            Due.is("believes nothing", x.belief(2, other, 1), -1);
            Due.is("nor is it known", x.belief(other, 2, 1), -1);
            Due.is("no birds", x.ofBirds(2, other) + x.ofBirds(other, 2), 0);
            Due.is("no way", x.route(2, other), -1);
        }
        Due.is("itself", x.belief(2, 2, 1), 100);
        Due.is("none is right", x.right(2), 0.0);
        Due.is("one of two", x.right(1), 0.5);
    }

    /** The foe HEARS RADIO, LAMP and WIRE: what goes by RUNNER or BIRD past the POST it does not. */
    private static void neverHeard() {
        Fieldwire x = new Fieldwire();
        x.ground(0, 63, 0, 1);
        x.desk(0, 1, 1, 0, false);
        x.desk(3, 1, 0, 0, false);
        x.birds(0, 1, 1);
        Made.pass(x, 360);
        x.post(0);
        Made.report(x, 0, 1, 1);
        Made.report(x, 0, 1, 1);
        x.fly(0);
        x.pass(1);
        Due.is("a bird", x.ofMessage(0, 10), 4);
        Due.is("a runner", x.ofMessage(1, 10), 3);
        x.post(1);
        x.pass(9);
        x.post(3);
        x.pass(9);
        Due.is("both came", x.field(6), 2);
        Due.is("none is heard", x.field(11), 0);
        Due.is("none is read", x.field(12), 0);
    }

    /** "(Asked as it is sent, each time.)": a POST that is told, or a DESK that moves, while it is under way is too late. */
    private static void lampHeardAsItIsSent() {
        Fieldwire x = Made.desks(16, 18);
        Made.report(x, 0, 1, 99);
        x.pass(1);
        x.post(16);
        x.pass(1);
        Due.is("not heard", x.ofMessage(0, 13), 0);
        x.move(0, 0);
        x.pass(1);
        Due.is("in row 0 by now", x.ofMessage(0, 13), 0);
        Due.is("it goes on", x.ofMessage(0, 11), 11);
        x.shell(1);
        x.shell(9);
        x.pass(1);
        Due.is("kept", x.ofMessage(0, 8), 0);
        x.pass(4);
        Due.is("sent anew", x.ofMessage(0, 8), 1);
        Due.is("heard", x.ofMessage(0, 13), 2);
    }

    /** "if the DESK that sends is in row 0 or 1, or its CELL and the POST .. SEE each other" */
    private static void heardThroughSmoke() {
        Fieldwire x = Made.desks(15, 16);
        x.shell(15);
        x.shell(16);
        Due.is("in row 1, whatever it sees", x.heard(0), 2);
        x.post(15);
        Due.is("the post is there", x.heard(0), 2);
        x.post(16);
        Due.is("the post is there, but nothing is seen", x.heard(1), 0);
        x.pass(5);
        Due.is("without smoke", x.heard(1), 2);
    }

    /** RADIO takes the SET of its goal, not its battery, LAMP or CORD. */
    private static void radioWhateverTheGoalDoes() {
        Fieldwire x = new Fieldwire();
        x.ground(0, 63, 0, 1);
        x.desk(16, 1, 0, 0, true);
        x.desk(20, 1, 0, 0, true);
        x.desk(21, 1, 0, 0, false);
        x.desk(40, 1, 0, 0, false);
        x.wire(1, 3, false);
        x.write(1, 2, 0, 99, 0, false, 0);
        x.write(1, 3, 0, 99, 0, false, 0);
        x.pass(1);
        Due.is("its lamp is in use", x.ofMessage(0, 10), 1);
        Due.is("its cord is too", x.ofDesk(1, 2), 0);
        x.write(0, 1, 1, 1, 0, false, 0);
        x.pass(1);
        Due.is("by radio", x.tell(2), "2: report 0>1 by radio to 1");
        x.pass(1);
        Due.is("it came", x.tell(2), "2: report 0>1 came");
    }

    /** "64 times right() (cut to a whole number)": two of three are 42.67, so 42. */
    private static void digestCutsRight() {
        Fieldwire x = Made.desks(16, 17, 24, 25);
        Made.report(x, 1, 0, 1);
        Made.report(x, 2, 0, 1);
        x.pass(2);
        Due.is("two of three", x.right(0), 2.0 / 3.0);
        long due = 58262;
        for (int what = 0; what <= 16; what++) {
            due = due * 31 + x.field(what);
        }
        int[] right = {42, 0, 0, 0};
        for (int desk = 0; desk < 4; desk++) {
            for (int what = 0; what <= 13; what++) {
                due = due * 31 + x.ofDesk(desk, what);
            }
            due = ((due * 31 + right[desk]) * 31 + x.heard(desk)) * 31 + x.best(desk);
            for (int other = 0; other < 4; other++) {
                due = (due * 31 + x.route(desk, other)) * 31 + x.ofBirds(desk, other);
                for (int what = 0; what <= 2; what++) {
                    due = due * 31 + x.belief(desk, other, what);
                }
            }
        }
        for (int message = 0; message < 2; message++) {
            for (int what = 0; what <= 14; what++) {
                due = due * 31 + x.ofMessage(message, what);
            }
            due = due * 31 + x.would(message);
        }
        Due.is("digest", x.digest(), due * 31 + 1);
    }
}
