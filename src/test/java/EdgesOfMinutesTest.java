/** Section 7 of the document: what comes ahead of what in one MINUTE, and what a DESK that MOVES leaves behind. */
public final class EdgesOfMinutesTest {
    public static void main(String[] args) {
        nothingAtOnce();
        oneByOne();
        smokeIsFirst();
        jamIsAheadOfRadio();
        batteriesAreAheadOfMessages();
        linesmenAreAheadOfDesks();
        linesmenAsTheyWereSent();
        messagesByNumber();
        ordersByNumber();
        messagesAreAheadOfDesks();
        writtenMeanwhile();
        desksInTheirOrder();
        nextOnesCanGo();
        firstMeansThatCanBe();
        movesAtOnce();
        waitsAtADeskThatMoves();
        Due.end("EdgesOfMinutesTest");
    }

    /** All is sent as a MINUTE begins, nothing by a call but a BIRD. */
    private static void nothingAtOnce() {
        Fieldwire x = Made.desks(16, 17);
        x.wire(0, 1, false);
        Made.report(x, 0, 1, 1);
        Due.is("it waits", x.tell(0), "0: report 0>1 waits at 0");
        Due.is("no means", x.ofMessage(0, 10), -1);
        Due.is("the wire is free", x.ofWire(0, 6), -1);
        x.pass(1);
        Due.is("it goes", x.tell(0), "0: report 0>1 by wire to 1");
        Due.is("not there in the same minute", x.ofMessage(0, 11), 1);
        x.pass(1);
        Due.is("it came", x.tell(0), "0: report 0>1 came");
    }

    /** "Lets MINUTES go by, one by one": 240 at once are as 240 times one. */
    private static void oneByOne() {
        Fieldwire[] both = new Fieldwire[2];
        for (int k = 0; k < 2; k++) {
            Fieldwire x = new Fieldwire();
            x.ground(17, 17, 0, 1);
            x.desk(16, 1, 2, 2, true);
            x.desk(18, 1, 0, 0, true);
            x.desk(60, 1, 0, 0, false);
            x.wire(0, 1, true);
            x.wire(1, 2, false);
            x.turn(1);
            x.write(0, 2, 0, 99, 1, false, 0);
            x.write(0, 1, 0, 99, 1, true, 5);
            x.write(1, 0, 1, 99, 1, false, 0);
            x.shell(60);
            x.jam(20);
            x.mend(0, 0);
            both[k] = x;
        }
        both[0].pass(240);
        for (int k = 0; k < 240; k++) {
            both[1].pass(1);
        }
        Due.is("240 minutes", both[0].digest(), both[1].digest());
        Due.is("something came", both[0].field(6) > 0, true);
    }

    /** "SMOKE is 1 less" ahead of all else: what it hid is seen in that MINUTE. */
    private static void smokeIsFirst() {
        Fieldwire x = Made.desks(16, 18);
        x.shell(17);
        Made.report(x, 0, 1, 1);
        for (int minute = 1; minute <= 5; minute++) {
            Due.is("smoke", x.ofCell(17, 2), 6 - minute);
            Due.is("no lamp", x.would(0), -1);
            x.pass(1);
            Due.is("sent at " + minute, x.ofMessage(0, 8), minute == 5 ? 1 : 0);
        }
    }

    /** "the JAM 1 less" ahead of messages and DESKS */
    private static void jamIsAheadOfRadio() {
        for (int jam = 0; jam <= 3; jam++) {
            Fieldwire x = inAir();
            x.write(0, 1, 0, 50, 0, false, 0);
            x.pass(1);
            Due.is("jam(" + jam + ")", x.jam(jam), 0);
            Due.is("field(9)", x.field(9), jam);
            x.pass(1);
            Due.is("field(9) a minute later", x.field(9), Math.max(0, jam - 1));
            Due.is("on its way", x.ofMessage(0, 8), jam <= 1 ? 1 : 0);
            x.pass(1);
            Due.is("a minute later", x.ofMessage(0, 11), jam <= 1 ? 4 : jam == 2 ? 6 : 0);
        }
    }

    private static Fieldwire inAir() {
        Fieldwire x = new Fieldwire();
        x.ground(0, 63, 0, 1);
        x.desk(0, 1, 0, 0, true);
        x.desk(3, 1, 0, 0, true);
        x.desk(6, 1, 0, 0, true);
        return x;
    }

    /** A battery is 1 less in the MINUTE in which a message comes, not in that in which it is sent. */
    private static void batteriesAreAheadOfMessages() {
        Fieldwire x = inAir();
        x.write(1, 0, 0, 1, 0, false, 0);
        int[] due = {60, 59, 60};
        for (int minute = 1; minute <= 3; minute++) {
            x.pass(1);
            Due.is("battery at " + minute, x.ofDesk(1, 5), due[minute - 1]);
            Due.is("that of its goal", x.ofDesk(0, 5), 60);
            Due.is("that of another one", x.ofDesk(2, 5), 60);
        }
        // kept by a JAM: it was on the air as the MINUTE began, and is not as the next one does
        Fieldwire y = inAir();
        y.write(1, 0, 0, 99, 0, false, 0);
        y.pass(1);
        y.jam(3);
        y.pass(1);
        Due.is("1 less in the minute in which it is kept", y.ofDesk(1, 5), 59);
        Due.is("kept", y.ofMessage(0, 8), 0);
        y.pass(1);
        Due.is("1 more", y.ofDesk(1, 5), 60);
    }

    /** A WIRE that a LINESMAN mends carries in the same MINUTE. */
    private static void linesmenAreAheadOfDesks() {
        Fieldwire x = new Fieldwire();
        x.ground(1, 1, 9, 0);
        x.desk(0, 1, 0, 0, false);
        x.desk(2, 1, 0, 1, false);
        x.wire(0, 1, false);
        x.shell(1);
        x.mend(1, 0);
        Made.report(x, 0, 1, 1);
        x.pass(17);
        Due.is("it waits", x.ofMessage(0, 8), 0);
        x.pass(1);
        Due.is("mended", x.ofWire(0, 3), 0);
        Due.is("sent", x.ofWire(0, 6), 0);
    }

    /** "LINESMEN go on, in the order in which they were sent" */
    private static void linesmenAsTheyWereSent() {
        // at 32 one has mended the first CELL, and the other one, who was sent first, has gone along it
        Fieldwire x = new Fieldwire();
        x.desk(0, 1, 0, 1, false);
        x.desk(7, 1, 0, 1, false);
        x.wire(0, 1, false);
        x.shell(0);
        x.mend(1, 0);
        x.pass(18);
        x.mend(0, 0);
        x.pass(13);
        Due.is("broken at 31", x.ofWire(0, 3), 1);
        x.pass(1);
        Due.is("mended at 32", x.ofWire(0, 3), 0);
        Due.is("he found it broken", x.ofDesk(0, 4), 0);
        x.pass(9);
        Due.is("he stands", x.ofDesk(0, 4), 0);
        x.pass(1);
        Due.is("he is there at 42", x.ofDesk(0, 4), 1);
        // sent the other way round, he finds nothing BROKEN in the same MINUTE
        Fieldwire y = new Fieldwire();
        y.desk(0, 1, 0, 1, false);
        y.desk(2, 1, 0, 1, false);
        y.wire(0, 1, false);
        y.shell(0);
        y.mend(0, 0);
        y.pass(2);
        y.mend(1, 0);
        y.pass(12);
        Due.is("mended at 14", y.ofWire(0, 3), 0);
        Due.is("he has gone along it at 14 too", y.ofDesk(0, 4), 1);
    }

    /** "messages ON THEIR WAY by number": of two REPORTS with one ORIGIN the smaller number is BELIEVED. */
    private static void messagesByNumber() {
        for (int first = 0; first <= 1; first++) {
            Fieldwire x = Made.desks(16, 18);
            x.desk(16, 1, 0, 0, false);
            x.wire(0, 1, false);
            // one by wire and one by lamp come in the same minute, whatever their RANK
            x.state(0, 10);
            x.write(0, 1, first == 0 ? 2 : 0, 1, 0, false, 0);
            x.state(0, 20);
            x.write(0, 1, first == 0 ? 0 : 2, 1, 0, false, 0);
            x.pass(1);
            Due.is("one by wire", x.ofMessage(1 - first, 10), 0);
            Due.is("one by lamp", x.ofMessage(first, 10), 1);
            x.pass(1);
            Due.is("both came", x.ofDesk(1, 11), 2);
            Due.is("the smaller number", x.belief(1, 0, 0), 10);
            Due.is("diary", x.diary(1, 0, 2), 0);
        }
    }

    /** Of two ORDERS with one ORIGIN that come together the smaller number is carried out. */
    private static void ordersByNumber() {
        for (int first = 0; first <= 1; first++) {
            Fieldwire x = Made.far(3);
            x.wire(0, 1, false);
            x.wire(2, 1, false);
            Made.order(x, first == 0 ? 0 : 2, 1, 10);
            Made.order(x, first == 0 ? 2 : 0, 1, 20);
            x.pass(2);
            Due.is("the smaller number", x.ofDesk(1, 6), 10);
            Due.is("carried out", x.ofDesk(1, 9), 1);
            Due.is("late", x.ofDesk(1, 10), 1);
        }
    }

    /** What comes to a DESK goes on in that MINUTE, and what it goes by is free again in that MINUTE. */
    private static void messagesAreAheadOfDesks() {
        Fieldwire x = Made.far(3);
        x.wire(0, 1, false);
        x.wire(1, 2, false);
        Made.report(x, 0, 2, 1);
        Made.report(x, 0, 1, 1);
        x.pass(1);
        Due.is("the second one waits", x.ofMessage(1, 8), 0);
        x.pass(1);
        Due.is("the first one has gone on", x.tell(0), "0: report 0>2 by wire to 2");
        Due.is("the second one has gone", x.tell(1), "1: report 0>1 by wire to 1");
        // a way back, too: from a DESK of a greater number to one of a smaller one
        Fieldwire y = Made.far(3);
        y.wire(0, 1, false);
        y.wire(1, 2, false);
        Made.report(y, 2, 0, 1);
        y.pass(2);
        Due.is("gone on", y.tell(0), "0: report 2>0 by wire to 0");
        // a REPORT tells the STATE of when it was written, also if an ORDER changes that on its way
        Fieldwire z = Made.far(2);
        z.wire(0, 1, false);
        Made.order(z, 0, 1, 9);
        Made.report(z, 1, 0, 1);
        z.pass(3);
        Due.is("the state as it was written", z.belief(0, 1, 0), 0);
        Due.is("its state", z.ofDesk(1, 6), 9);
        Due.is("not right by now", z.belief(0, 1, 2), 0);
    }

    /** "(those too that are written meanwhile)": sent in the MINUTE in which the first one is GARBLED, but not there. */
    private static void writtenMeanwhile() {
        Fieldwire x = Made.far(2);
        x.wire(0, 1, false);
        x.write(0, 1, 0, 1, 1, false, 0);
        x.turn(1);
        x.pass(3);
        Due.is("garbled", x.ofMessage(0, 8), 4);
        Due.is("on its way", x.ofMessage(1, 8), 1);
        Due.is("with all its minutes", x.ofMessage(1, 11), 2);
        x.pass(1);
        Due.is("one is left", x.ofMessage(1, 11), 1);
    }

    /** "then DESKS in their order": a plain one of DESK 0 is ahead of a flash of DESK 1. */
    private static void desksInTheirOrder() {
        Fieldwire x = Made.far(2);
        x.wire(1, 0, false);
        x.write(1, 0, 0, 1, 0, false, 0);
        Made.report(x, 0, 1, 1);
        x.pass(1);
        Due.is("the wire carries that of desk 0", x.ofWire(0, 6), 1);
        Due.is("desk 1's waits", x.ofMessage(0, 8), 0);
        x.pass(1);
        Due.is("then that of desk 1", x.ofWire(0, 6), 0);

        Fieldwire y = inAir();
        y.write(2, 0, 0, 1, 0, false, 0);
        y.write(1, 0, 0, 1, 0, false, 0);
        y.write(0, 1, 1, 1, 0, false, 0);
        int[] order = {2, 1, 0};
        for (int message : order) {
            y.pass(1);
            Due.is("on the air", y.ofMessage(message, 8), 1);
            Due.is("alone", y.field(5), 1);
        }
    }

    /** "(what can not go waits; the next ones can)" */
    private static void nextOnesCanGo() {
        Fieldwire x = Made.far(4);
        x.wire(0, 1, false);
        x.write(0, 2, 0, 1, 0, false, 0);
        x.write(0, 3, 0, 1, 0, false, 0);
        x.write(0, 1, 2, 1, 0, false, 0);
        x.pass(1);
        Due.is("no way", x.ofMessage(0, 8), 0);
        Due.is("no way", x.ofMessage(1, 8), 0);
        Due.is("the last one goes", x.ofMessage(2, 8), 1);
        Due.is("two wait", x.ofDesk(0, 8), 2);
    }

    /** "each by the first MEANS that can be": WIRE, LAMP, RADIO, RUNNER, each taken once */
    private static void firstMeansThatCanBe() {
        Fieldwire x = new Fieldwire();
        x.desk(16, 4, 1, 0, true);
        x.desk(18, 1, 0, 0, true);
        for (int k = 0; k < 6; k++) {
            x.write(0, 1, 1, 99, 0, false, 0);
        }
        x.wire(0, 1, false);
        int[] due = {0, 1, 2, -1, -1, -1};
        x.pass(1);
        for (int k = 0; k < 6; k++) {
            Due.is("means of " + k, x.ofMessage(k, 10), due[k]);
        }
        Due.is("no runner while there is a way", x.ofDesk(0, 3), 1);
        x.shell(18);
        x.pass(1);
        // the wire and the lamp are kept: both wait again, and the first of all goes by runner
        Due.is("the first one by runner", x.ofMessage(0, 10), 3);
        Due.is("the second one waits", x.ofMessage(1, 8), 0);
        Due.is("by what it went last", x.ofMessage(1, 10), 1);
        Due.is("the third one goes on by radio", x.ofMessage(2, 11), 9);
        Due.is("the others wait", x.ofDesk(0, 8), 4);
    }

    /** "A DESK that MOVES is at its new CELL at once (another one); all WIRES at it are DEAD." */
    private static void movesAtOnce() {
        Fieldwire x = Made.desks(0, 63, 9);
        Due.noArgument("the same cell", x, () -> x.move(0, 0));
        Due.is("no wires", x.move(0, 63), 0);
        Due.is("at its new cell", x.ofDesk(0, 0), 63);
        Due.is("two are there", x.ofCell(63, 5), 2);
        Due.is("none is at 0", x.ofCell(0, 5), 0);
        Due.is("back at once", x.move(0, 0), 0);
        for (int k = 0; k < 10; k++) {
            x.wire(k % 2, 2, false);
        }
        Due.is("five die", x.move(0, 1), 5);
        Due.is("none dies twice", x.move(0, 2), 0);
        Due.is("the other five die", x.move(2, 10), 5);
        Due.is("all are dead", x.move(1, 62), 0);
    }

    /** What WAITS at a DESK that MOVES waits there yet. */
    private static void waitsAtADeskThatMoves() {
        Fieldwire x = Made.far(2);
        Made.report(x, 0, 1, 1);
        x.pass(1);
        x.move(0, 60);
        Due.is("it waits", x.tell(0), "0: report 0>1 waits at 0");
        x.wire(0, 1, false);
        x.pass(2);
        Due.is("it came", x.tell(0), "0: report 0>1 came");
    }
}
