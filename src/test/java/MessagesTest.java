/** Promises 10 to 17: messages, the MEANS by which they go, codes, the foe, and minutes. */
public final class MessagesTest {
    public static void main(String[] args) {
        write();
        writeIsRefused();
        orderOfSending();
        wireTimes();
        wireCordsAndPlugs();
        wireIsCut();
        lamp();
        lampIsKept();
        radio();
        radioIsKept();
        battery();
        runner();
        runnerFindsNobody();
        fly();
        flyIsRefused();
        birdIsLost();
        turnAndGarble();
        garbleWhenFull();
        captureAndHear();
        postAndWires();
        jam();
        pass();
        beliefs();
        orders();
        call();
        Due.end("MessagesTest");
    }

    /** Desks without sets, lamps out of reach and no runners: what goes, goes by wire. */
    private static Fieldwire farDesks(int... cells) {
        Fieldwire x = new Fieldwire();
        for (int cell : cells) {
            x.desk(cell, 1, 0, 0, false);
        }
        return x;
    }

    private static void write() {
        Fieldwire x = farDesks(0, 63);
        x.pass(7);
        x.state(0, 42);
        x.turn(0);
        Due.is("write a report", x.write(0, 1, 2, 99, 1, false, -99), 0);
        x.state(0, 43);
        x.turn(0);
        Due.is("write an order", x.write(1, 0, 0, 1, 0, true, 99), 1);
        int[][] due = {{0, 1, 2, 99, 1, 0, 42, 7, 0, 0, -1, 0, -1, 0, 2}, {1, 0, 0, 1, 0, 1, 99, 7, 0, 1, -1, 0, -1, 0, 0}};
        for (int message = 0; message < 2; message++) {
            for (int what = 0; what <= 14; what++) {
                Due.is("ofMessage(" + message + ", " + what + ")", x.ofMessage(message, what), due[message][what]);
            }
        }
        Due.is("it is not sent at once", x.field(4), 2);
        Due.is("messages", x.field(3), 2);
    }

    private static void writeIsRefused() {
        Fieldwire x = farDesks(0, 63);
        Due.noIndex("from 2", x, () -> x.write(2, 2, 3, 0, 2, true, 100));
        Due.noIndex("to -1", x, () -> x.write(0, -1, 3, 0, 2, true, 100));
        Due.noIndex("to 2", x, () -> x.write(0, 2, 0, 1, 0, true, 0));
        Due.noArgument("to itself", x, () -> x.write(1, 1, 0, 1, 0, true, 0));
        Due.noArgument("rank 3", x, () -> x.write(0, 1, 3, 1, 0, true, 0));
        Due.noArgument("rank -1", x, () -> x.write(0, 1, -1, 1, 0, true, 0));
        Due.noArgument("no words", x, () -> x.write(0, 1, 0, 0, 0, true, 0));
        Due.noArgument("100 words", x, () -> x.write(0, 1, 0, 100, 0, true, 0));
        Due.noArgument("code 2", x, () -> x.write(0, 1, 0, 1, 2, true, 0));
        Due.noArgument("code -1", x, () -> x.write(0, 1, 0, 1, -1, true, 0));
        Due.noArgument("value 100", x, () -> x.write(0, 1, 0, 1, 0, true, 100));
        Due.noArgument("value -100", x, () -> x.write(0, 1, 0, 1, 0, true, -100));
        Due.noArgument("a report of value 100", x, () -> x.write(0, 1, 0, 1, 0, false, 100));
        for (int k = 0; k < 24; k++) {
            Due.is("the next message", x.write(0, 1, 0, 1, 0, false, 99), k);
        }
        Due.noState("a 25th", x, () -> x.write(0, 1, 0, 1, 0, true, 0));
        Due.noArgument("a 25th of rank 3", x, () -> x.write(0, 1, 3, 1, 0, true, 0));
        Due.noIndex("a 25th from nobody", x, () -> x.write(2, 1, 3, 1, 0, true, 0));
    }

    /** By rank, then by origin, then by number. */
    private static void orderOfSending() {
        Fieldwire x = farDesks(0, 63);
        x.write(0, 1, 2, 1, 0, false, 0);
        x.write(0, 1, 1, 1, 0, false, 0);
        x.pass(1);
        x.write(0, 1, 1, 1, 0, false, 0);
        x.write(0, 1, 0, 1, 0, false, 0);
        x.write(0, 1, 0, 1, 0, false, 0);
        x.wire(0, 1, false);
        int[] order = {3, 4, 1, 2, 0};
        for (int message : order) {
            x.pass(1);
            Due.is("it goes now", x.ofWire(0, 6), message);
        }
    }

    private static void wireTimes() {
        int[][] due = {{1, 0, 1}, {19, 0, 1}, {20, 0, 2}, {99, 0, 5}, {1, 1, 2}, {19, 1, 2}, {20, 1, 4}, {99, 1, 10}};
        for (int[] row : due) {
            Fieldwire x = farDesks(0, 56, 63);
            x.wire(0, 1, false);
            x.wire(2, 1, false);
            Due.is("delay", x.delay(0, 2, row[0], row[1]), 2 * row[2]);
            x.write(0, 2, 2, row[0], row[1], false, 0);
            x.pass(1);
            Due.is("left on a wire", x.ofMessage(0, 11), row[2]);
            Due.is("it goes", x.tell(0), "0: report 0>2 by wire to 1");
            x.pass(row[2]);
            Due.is("it goes on in the same minute", x.tell(0), "0: report 0>2 by wire to 2");
            Due.is("the desk that it left last", x.ofMessage(0, 9), 1);
            x.pass(row[2]);
            Due.is("it came", x.tell(0), "0: report 0>2 came");
            Due.is("when", x.ofMessage(0, 12), 1 + 2 * row[2]);
            Due.is("nothing is left", x.ofMessage(0, 11), 0);
        }
    }

    private static void wireCordsAndPlugs() {
        Fieldwire x = new Fieldwire();
        x.desk(0, 2, 9, 0, false);
        x.desk(7, 1, 0, 0, false);
        x.desk(56, 1, 0, 0, false);
        x.desk(63, 1, 0, 0, false);
        x.wire(0, 1, false);
        x.wire(0, 1, false);
        x.wire(0, 2, false);
        x.wire(0, 3, false);
        x.write(0, 1, 0, 99, 0, false, 0);
        x.write(0, 1, 0, 99, 0, false, 0);
        x.write(0, 2, 1, 99, 0, false, 0);
        x.write(0, 3, 2, 99, 0, false, 0);
        x.write(1, 0, 2, 99, 0, false, 0);
        Due.is("2 cords are free", x.ofDesk(0, 2), 2);
        Due.is("would(3): ahead of all others", x.would(3), 0);
        x.pass(1);
        Due.is("the first wire", x.ofWire(0, 6), 0);
        Due.is("the second wire is not tried", x.ofWire(1, 6), -1);
        Due.is("it waits for its wire", x.ofMessage(1, 8), 0);
        Due.is("would(1): no runner while there is a way", x.would(1), -1);
        Due.is("the next one passes it", x.ofWire(2, 6), 2);
        Due.is("no cord is free", x.ofDesk(0, 2), 0);
        Due.is("so this one waits", x.ofMessage(3, 8), 0);
        Due.is("would(3)", x.would(3), -1);
        Due.is("the wire is taken from the other end too", x.ofMessage(4, 8), 0);
        Due.is("what comes to a desk needs no cord there", x.ofDesk(1, 2), 1);
        Due.is("two messages wait at 0", x.ofDesk(0, 8), 2);
        x.pass(5);
        Due.is("then it goes by the same wire", x.ofWire(0, 6), 1);
        Due.is("and this one by its own", x.ofWire(3, 6), 3);
        Due.is("cords", x.ofDesk(0, 2), 0);
    }

    private static void wireIsCut() {
        Fieldwire x = farDesks(0, 56, 63);
        x.wire(0, 1, false);
        x.wire(1, 2, false);
        x.write(0, 2, 2, 19, 0, false, 0);
        x.pass(2);
        Due.is("it is on the second wire", x.ofWire(1, 6), 0);
        x.shell(60);
        Due.is("nothing happens before its turn", x.tell(0), "0: report 0>2 by wire to 2");
        Due.is("the broken wire carries it", x.ofWire(1, 6), 0);
        x.pass(1);
        Due.is("it waits where it came from", x.tell(0), "0: report 0>2 waits at 1");
        Due.is("by what it went last", x.ofMessage(0, 10), 0);
        Due.is("nothing is left", x.ofMessage(0, 11), 0);
        Due.is("the cord is free", x.ofDesk(1, 2), 1);
        Due.is("the wire is", x.ofWire(1, 6), -1);
        x.wire(2, 1, false);
        x.pass(1);
        Due.is("it goes by another one", x.ofWire(2, 6), 0);
        x.move(2, 62);
        x.pass(1);
        Due.is("dead", x.tell(0), "0: report 0>2 waits at 1");
        x.wire(2, 1, false);
        x.pass(1);
        Due.is("on its way once more", x.ofWire(3, 6), 0);
        x.pass(1);
        Due.is("it came", x.ofMessage(0, 8), 2);
    }

    private static void lamp() {
        Fieldwire x = new Fieldwire();
        x.desk(16, 1, 0, 0, false);
        x.desk(21, 1, 0, 0, false);
        x.desk(22, 1, 0, 0, false);
        x.write(0, 1, 2, 7, 0, false, 0);
        x.write(0, 2, 0, 1, 0, false, 0);
        Due.is("5 steps", x.would(0), 1);
        Due.is("6 steps", x.would(1), -1);
        x.ground(18, 18, 1, 0);
        Due.is("a height between", x.would(0), -1);
        x.ground(21, 21, 1, 0);
        Due.is("as high as one end", x.would(0), 1);
        x.ground(20, 20, 0, 1);
        Due.is("a wood between", x.would(0), -1);
        x.ground(20, 20, 0, 0);
        x.write(0, 1, 2, 8, 1, false, 0);
        x.write(1, 0, 2, 1, 0, false, 0);
        x.pass(1);
        Due.is("7 words", x.ofMessage(0, 11), 1);
        Due.is("its tell", x.tell(0), "0: report 0>1 by lamp to 1");
        Due.is("one lamp for one message", x.ofMessage(2, 8), 0);
        Due.is("the other one has its own lamp", x.ofMessage(3, 10), 1);
        x.pass(1);
        Due.is("it came", x.ofMessage(0, 8), 2);
        Due.is("8 words in code: the code costs nothing", x.ofMessage(2, 11), 2);
        x.wire(0, 1, false);
        x.pass(2);
        x.write(0, 1, 2, 7, 0, false, 0);
        Due.is("wire is ahead of lamp", x.would(4), 0);
    }

    private static void lampIsKept() {
        Fieldwire x = new Fieldwire();
        x.desk(16, 1, 0, 0, false);
        x.desk(20, 1, 0, 0, false);
        x.write(0, 1, 2, 20, 0, false, 0);
        x.pass(1);
        x.shell(18);
        Due.is("on its way", x.ofMessage(0, 8), 1);
        x.pass(1);
        Due.is("smoke keeps it", x.tell(0), "0: report 0>1 waits at 0");
        Due.is("by what it went last", x.ofMessage(0, 10), 1);
        x.pass(3);
        Due.is("smoke for one minute more", x.ofCell(18, 2), 1);
        Due.is("so it waits", x.ofMessage(0, 8), 0);
        x.pass(1);
        Due.is("then it goes from the start", x.ofMessage(0, 11), 3);
        x.move(1, 22);
        x.pass(1);
        Due.is("6 steps away", x.ofMessage(0, 8), 0);
        x.move(1, 21);
        x.pass(1);
        x.move(1, 19);
        x.pass(2);
        Due.is("a move within reach does not matter", x.ofMessage(0, 11), 1);
        x.pass(1);
        Due.is("it came", x.ofMessage(0, 12), 11);
    }

    /** Two desks with sets, out of each other's sight, and others. */
    private static Fieldwire radioDesks() {
        Fieldwire x = new Fieldwire();
        x.desk(16, 1, 0, 0, true);
        x.desk(63, 1, 0, 0, true);
        x.desk(23, 1, 0, 0, false);
        return x;
    }

    private static void radio() {
        Fieldwire x = radioDesks();
        x.write(0, 1, 2, 1, 0, false, 0);
        x.write(0, 2, 0, 1, 0, false, 0);
        x.write(2, 0, 0, 1, 0, false, 0);
        x.write(0, 1, 1, 9, 0, false, 0);
        x.write(0, 1, 1, 10, 1, false, 0);
        x.write(1, 0, 0, 99, 0, false, 0);
        Due.is("a plain one", x.would(0), -1);
        Due.is("to a desk without a set", x.would(1), -1);
        Due.is("from a desk without a set", x.would(2), -1);
        Due.is("an urgent one", x.would(3), 2);
        x.pass(1);
        Due.is("9 words", x.ofMessage(3, 11), 1);
        Due.is("one on the air", x.ofMessage(4, 8), 0);
        Due.is("from anywhere", x.ofMessage(5, 8), 0);
        Due.is("its tell", x.tell(3), "3: report 0>1 by radio to 1");
        x.pass(1);
        Due.is("it came", x.ofMessage(3, 8), 2);
        Due.is("10 words, twice that it is not in code", x.ofMessage(4, 11), 2);
        x.pass(2);
        Due.is("99 words", x.ofMessage(5, 11), 10);
        Due.is("heard", x.ofMessage(4, 13), 1);
        Due.is("read", x.ofMessage(3, 13), 2);
    }

    private static void radioIsKept() {
        Fieldwire x = radioDesks();
        x.write(0, 1, 0, 30, 0, false, 0);
        Due.is("jam(2)", x.jam(2), 0);
        Due.is("jammed", x.would(0), -1);
        x.pass(1);
        Due.is("one minute of it is left", x.ofMessage(0, 8), 0);
        x.pass(1);
        Due.is("none is left", x.ofMessage(0, 10), 2);
        x.jam(1);
        x.pass(1);
        Due.is("jam(1) is over as the minute begins", x.ofMessage(0, 11), 3);
        x.jam(2);
        x.pass(1);
        Due.is("kept", x.tell(0), "0: report 0>1 waits at 0");
        Due.is("it was heard all the same", x.field(11), 1);
        x.pass(1);
        Due.is("sent again", x.ofMessage(0, 11), 4);
        Due.is("one on the air, which is free again", x.field(5), 1);
    }

    private static void battery() {
        Fieldwire x = radioDesks();
        Due.is("without a set", x.ofDesk(2, 5), -1);
        for (int k = 0; k < 7; k++) {
            x.write(0, 1, 0, 99, 0, false, 0);
        }
        x.pass(1);
        Due.is("full as it is sent", x.ofDesk(0, 5), 60);
        x.pass(1);
        Due.is("1 less with each minute", x.ofDesk(0, 5), 59);
        x.pass(9);
        Due.is("10 minutes on the air, and the next one is", x.ofDesk(0, 5), 50);
        x.pass(40);
        Due.is("at 51", x.ofDesk(0, 5), 10);
        x.pass(9);
        Due.is("at 60 it is not empty", x.ofDesk(0, 5), 1);
        Due.is("so the sixth one goes on", x.ofMessage(5, 11), 1);
        x.pass(1);
        Due.is("at 61 it is empty", x.ofDesk(0, 5), 0);
        Due.is("so the sixth one did not come", x.ofMessage(5, 8), 0);
        Due.is("nor is it sent", x.would(5), -1);
        Due.is("five came", x.ofDesk(1, 11), 5);
        x.pass(1);
        Due.is("1 more", x.ofDesk(0, 5), 1);
        Due.is("sent at once", x.ofMessage(5, 8), 1);
        x.pass(1);
        Due.is("0 again", x.ofDesk(0, 5), 0);
        Due.is("kept again", x.ofMessage(5, 8), 0);
        x.jam(240);
        x.pass(240);
        Due.is("60 at most", x.ofDesk(0, 5), 60);
        Due.is("the goal's battery", x.ofDesk(1, 5), 60);
    }

    private static void runner() {
        Fieldwire x = new Fieldwire();
        x.ground(0, 63, 0, 1);
        x.ground(17, 17, 0, 3);
        x.ground(18, 18, 0, 2);
        x.desk(16, 1, 1, 0, false);
        x.desk(20, 1, 0, 0, false);
        x.write(0, 1, 2, 99, 1, false, 0);
        x.write(0, 1, 2, 1, 0, false, 0);
        x.wire(0, 1, false);
        Due.is("not with a way by wire", x.would(0), 0);
        x.shell(17);
        Due.is("without a way", x.would(0), 3);
        x.pass(1);
        x.ground(0, 63, 0, 0);
        Due.is("9 + 3 + 6 + 6, as it was when he was sent", x.ofMessage(0, 11), 24);
        Due.is("no other one is here", x.ofMessage(1, 8), 0);
        Due.is("its tell", x.tell(0), "0: report 0>1 by runner to 1");
        x.pass(23);
        Due.is("not there", x.ofDesk(1, 3), 0);
        Due.is("isSound()", x.isSound(), true);
        x.pass(1);
        Due.is("he is a runner of that desk", x.ofDesk(1, 3), 1);
        Due.is("it came", x.ofMessage(0, 12), 25);
        x.write(1, 0, 2, 1, 0, false, 0);
        x.ground(18, 18, 0, 1);
        x.pass(1);
        Due.is("and can be sent from there", x.ofMessage(2, 10), 3);
        Due.is("4 + 6 + 4 + 4", x.ofMessage(2, 11), 18);
    }

    private static void runnerFindsNobody() {
        for (int back = 0; back < 2; back++) {
            Fieldwire x = new Fieldwire();
            x.ground(17, 17, 0, 1);
            x.desk(16, 1, 1, 0, false);
            x.desk(18, 1, 0, 0, false);
            x.write(0, 1, 2, 1, 0, false, 0);
            x.pass(1);
            x.move(1, 63);
            x.move(0, 8);
            x.pass(9);
            if (back == 1) {
                x.move(1, 18);
            }
            Due.is("on his way", x.ofMessage(0, 11), 1);
            x.pass(1);
            Due.is("it stands", x.ofMessage(0, 8), back == 1 ? 2 : 3);
            Due.is("runners lost", x.field(15), 1 - back);
            Due.is("runners there", x.ofDesk(1, 3), back);
            Due.is("isSound()", x.isSound(), true);
        }
    }

    /** Desks out of sight of each other, by day. */
    private static Fieldwire birdDesks() {
        Fieldwire x = farDesks(0, 63, 56);
        x.pass(240);
        x.pass(120);
        return x;
    }

    private static void fly() {
        Fieldwire x = birdDesks();
        x.birds(0, 1, 2);
        x.birds(0, 2, 1);
        x.write(0, 1, 2, 99, 1, false, 0);
        x.write(0, 2, 2, 99, 1, false, 0);
        Due.is("would(0): birds are left out", x.would(0), -1);
        Due.is("fly(0)", x.fly(0), 8);
        Due.is("left", x.ofMessage(0, 11), 8);
        Due.is("means", x.ofMessage(0, 10), 4);
        Due.is("its tell", x.tell(0), "0: report 0>1 by bird to 1");
        Due.is("a bird less", x.ofBirds(0, 1), 1);
        Due.is("the others are there", x.ofBirds(0, 2), 1);
        x.pass(7);
        Due.is("on its way", x.ofMessage(0, 8), 1);
        x.pass(1);
        Due.is("came", x.ofMessage(0, 12), 368);
        Due.is("no bird is there", x.ofBirds(1, 0), 0);
        Due.is("the foe hears no bird", x.field(11), 0);
        x.move(0, 57);
        x.birds(0, 2, 1);
        Due.is("one step", x.fly(1), 2);
        Fieldwire y = birdDesks();
        y.move(1, 0);
        y.shell(0);
        y.birds(0, 1, 1);
        y.write(0, 1, 2, 99, 1, false, 0);
        Due.is("at the same cell", y.fly(0), 1);
    }

    private static void flyIsRefused() {
        Fieldwire x = farDesks(0, 63, 56);
        x.birds(0, 1, 1);
        x.birds(1, 0, 9);
        x.birds(2, 1, 9);
        x.write(0, 1, 2, 1, 0, false, 0);
        x.write(0, 2, 2, 1, 0, false, 0);
        Due.noIndex("fly(-1)", x, () -> x.fly(-1));
        Due.noIndex("fly(2)", x, () -> x.fly(2));
        Due.noState("by night", x, () -> x.fly(0));
        x.pass(240);
        x.pass(119);
        Due.noState("at 5:59", x, () -> x.fly(0));
        x.pass(1);
        Due.noState("no bird of that home", x, () -> x.fly(1));
        x.fly(0);
        Due.noState("on its way", x, () -> x.fly(0));
        x.pass(8);
        Due.noState("it came", x, () -> x.fly(0));
        x.birds(0, 2, 1);
        x.pass(240);
        x.pass(240);
        x.pass(240);
        x.pass(51);
        Due.is("18:59", x.field(0), 1139);
        Due.is("no night", x.field(13), 0);
        x.pass(1);
        Due.noState("at 19:00", x, () -> x.fly(1));
    }

    private static void birdIsLost() {
        Fieldwire x = birdDesks();
        x.move(1, 62);
        x.birds(0, 1, 3);
        for (int k = 0; k < 4; k++) {
            x.write(0, 1, 2, 1, 0, false, 0);
        }
        x.fly(0);
        x.pass(8);
        Due.is("a move ahead of it does not matter", x.ofMessage(0, 8), 2);
        x.fly(1);
        x.move(1, 61);
        x.move(1, 62);
        x.birds(0, 1, 2);
        x.pass(8);
        Due.is("moved, also if it came back", x.ofMessage(1, 8), 3);
        Due.is("lost", x.field(7), 1);
        x.fly(2);
        x.pass(8);
        Due.is("brought anew", x.ofMessage(2, 8), 2);
        x.move(1, 55);
        Due.is("one of before", x.fly(3), 8);
        x.pass(8);
        Due.is("is lost", x.ofMessage(3, 8), 3);
        Due.is("it did not come", x.ofMessage(3, 12), -1);
        Due.is("no runner is lost by that", x.field(15), 0);
    }

    private static void turnAndGarble() {
        Fieldwire x = farDesks(0, 63);
        Due.noIndex("turn(2)", x, () -> x.turn(2));
        Due.noIndex("turn(-1)", x, () -> x.turn(-1));
        for (int book = 2; book <= 9; book++) {
            Due.is("turn(0)", x.turn(0), book);
        }
        Due.is("turn(0)", x.turn(0), 1);
        x.wire(0, 1, false);
        x.state(0, 5);
        x.write(0, 1, 1, 1, 1, false, 0);
        x.write(0, 1, 2, 1, 0, false, 0);
        x.turn(0);
        x.turn(1);
        x.state(0, 6);
        x.pass(3);
        Due.is("written with another book", x.tell(0), "0: report 0>1 garbled");
        Due.is("when", x.ofMessage(0, 12), 3);
        Due.is("garbled ones", x.ofDesk(1, 12), 1);
        Due.is("known ones", x.ofDesk(1, 11), 0);
        Due.is("field(8)", x.field(8), 1);
        Due.is("field(6)", x.field(6), 0);
        Due.is("nothing is believed", x.belief(1, 0, 1), -1);
        int[] due = {0, 1, 1, 1, 1, 0, 5, 0, 1, 0, 0, 2, -1, 0, 2};
        for (int what = 0; what <= 14; what++) {
            Due.is("written again: ofMessage(2, " + what + ")", x.ofMessage(2, what), due[what]);
        }
        x.pass(2);
        Due.is("it came", x.tell(2), "2: report 0>1 came");
        Due.is("it is believed", x.belief(1, 0, 0), 5);
        x.turn(1);
        x.pass(1);
        Due.is("plain words can always be read", x.ofMessage(1, 8), 2);
        x.write(0, 1, 2, 1, 1, true, 9);
        x.pass(3);
        Due.is("a garbled order", x.tell(3), "3: order 0>1 garbled");
        Due.is("is not carried out", x.ofDesk(1, 6), 0);
        Due.is("nor late", x.ofDesk(1, 10), 0);
        Due.is("it is an order again", x.tell(4), "4: order 0>1 by wire to 1");
        x.turn(0);
        x.pass(2);
        Due.is("garbled again: the book as it was written counts", x.ofMessage(4, 8), 4);
        x.pass(2);
        Due.is("carried out", x.ofDesk(1, 6), 9);
        Due.is("its origin", x.ofDesk(1, 13), 6);
    }

    private static void garbleWhenFull() {
        Fieldwire x = farDesks(0, 63);
        x.wire(0, 1, false);
        x.write(0, 1, 0, 1, 1, false, 0);
        x.write(0, 1, 0, 1, 1, false, 0);
        for (int k = 2; k < 23; k++) {
            x.write(1, 0, 2, 1, 0, false, 0);
        }
        x.turn(1);
        x.pass(3);
        Due.is("one was written again", x.field(3), 24);
        Due.is("as the last one", x.ofMessage(23, 14), 1);
        x.pass(2);
        Due.is("there are 24", x.field(3), 24);
        Due.is("two are garbled", x.field(8), 2);
        Due.is("isSound()", x.isSound(), true);
    }

    private static void captureAndHear() {
        Fieldwire x = new Fieldwire();
        x.desk(15, 1, 0, 0, false);
        x.desk(18, 1, 0, 0, false);
        Due.noArgument("capture(0)", x, () -> x.capture(0));
        Due.noArgument("capture(10)", x, () -> x.capture(10));
        Due.is("capture(9)", x.capture(9), 512);
        Due.is("capture(1)", x.capture(1), 514);
        Due.is("capture(9)", x.capture(9), 514);
        x.turn(0);
        x.write(0, 1, 2, 1, 1, false, 0);
        x.write(1, 0, 2, 1, 0, false, 0);
        Due.is("heard(0) in row 1", x.heard(0), 2);
        Due.is("heard(1) in row 2", x.heard(1), 0);
        x.pass(1);
        Due.is("by lamp from row 1", x.ofMessage(0, 13), 1);
        Due.is("by lamp from row 2", x.ofMessage(1, 13), 0);
        Due.is("heard ones", x.field(11), 1);
        Due.is("read ones", x.field(12), 0);
        x.pass(1);
        Due.is("capture(2)", x.capture(2), 518);
        Due.is("read later than heard", x.ofMessage(0, 13), 2);
        Due.is("it was garbled, and the new one is heard too", x.field(11), 2);
        Due.is("read ones", x.field(12), 2);
        Due.is("post(34)", x.post(34), -1);
        Due.is("heard(1) in sight of the post", x.heard(1), 2);
        Due.is("asked as it is sent", x.ofMessage(1, 13), 0);
        x.ground(26, 26, 0, 1);
        Due.is("heard(1) behind a wood", x.heard(1), 0);
        x.post(18);
        Due.is("heard(1) at the post", x.heard(1), 2);
        x.shell(18);
        Due.is("heard(1) in smoke", x.heard(1), 0);
    }

    private static void postAndWires() {
        Fieldwire x = farDesks(56, 63);
        x.wire(0, 1, true);
        Due.is("post(63)", x.post(63), -1);
        Due.is("post(-1)", x.post(-1), 63);
        Due.is("post(0)", x.post(0), -1);
        Due.noIndex("post(64)", x, () -> x.post(64));
        Due.noIndex("post(-2)", x, () -> x.post(-2));
        Due.is("field(10)", x.field(10), 0);
        x.ground(0, 63, 0, 1);
        x.post(44);
        Due.is("a buried wire", x.heard(0), 0);
        x.write(0, 1, 0, 1, 0, false, 0);
        x.pass(1);
        Due.is("is not heard", x.ofMessage(0, 13), 0);
        x.shell(58);
        Due.is("plain 2 steps away", x.heard(0), 1);
        x.pass(1);
        x.post(36);
        Due.is("3 steps away", x.heard(0), 0);
        x.post(35);
        Due.is("3 steps away", x.heard(1), 0);
        x.post(43);
        x.write(1, 0, 0, 1, 1, false, 0);
        x.pass(1);
        Due.is("heard", x.ofMessage(1, 13), 1);
        x.post(-1);
        Due.is("it stays heard", x.ofMessage(1, 13), 1);
        Due.is("no post", x.heard(1), 0);
        x.post(43);
        x.shell(58);
        Due.is("a broken wire", x.heard(1), 0);
    }

    private static void jam() {
        Fieldwire x = new Fieldwire();
        Due.noArgument("jam(-1)", x, () -> x.jam(-1));
        Due.noArgument("jam(241)", x, () -> x.jam(241));
        Due.is("jam(240)", x.jam(240), 0);
        x.pass(40);
        Due.is("field(9)", x.field(9), 200);
        Due.is("jam(5)", x.jam(5), 200);
        x.pass(6);
        Due.is("field(9)", x.field(9), 0);
        Due.is("jam(0)", x.jam(0), 0);
    }

    private static void pass() {
        Fieldwire x = new Fieldwire();
        Due.noArgument("pass(0)", x, () -> x.pass(0));
        Due.noArgument("pass(241)", x, () -> x.pass(241));
        Due.noArgument("pass(-1)", x, () -> x.pass(-1));
        for (int k = 1; k < 12; k++) {
            Due.is("pass(240)", x.pass(240), 240 * k);
        }
        Due.is("pass(239)", x.pass(239), 2879);
        Due.noState("pass(2)", x, () -> x.pass(2));
        Due.noState("pass(240)", x, () -> x.pass(240));
        Due.noArgument("pass(241)", x, () -> x.pass(241));
        Due.is("pass(1)", x.pass(1), 2880);
        Due.noState("pass(1)", x, () -> x.pass(1));
        Due.is("field(0)", x.field(0), 2880);

        // linesmen are ahead of messages, and messages ahead of sending
        Fieldwire y = farDesks(0, 2, 63);
        y.desk(2, 1, 0, 1, false);
        y.wire(0, 3, false);
        y.ground(1, 1, 9, 0);
        y.shell(1);
        y.mend(3, 0);
        y.pass(17);
        y.write(0, 3, 0, 1, 0, false, 0);
        Due.is("broken", y.would(0), -1);
        y.pass(1);
        Due.is("mended and sent in one minute", y.ofMessage(0, 8), 1);
    }

    private static void beliefs() {
        Fieldwire x = farDesks(0, 63);
        x.write(0, 1, 2, 99, 0, false, 0);
        x.state(0, 1);
        x.write(0, 1, 2, 1, 0, false, 0);
        x.pass(1);
        x.state(0, 2);
        x.write(0, 1, 0, 1, 0, false, 0);
        x.wire(0, 1, false);
        x.pass(2);
        Due.is("the flash is there first", x.belief(1, 0, 0), 2);
        Due.is("its origin", x.belief(1, 0, 1), 1);
        Due.is("right", x.belief(1, 0, 2), 1);
        x.pass(6);
        Due.is("all came", x.ofDesk(1, 11), 3);
        Due.is("older ones do not count", x.belief(1, 0, 0), 2);
        Due.is("diary", x.diary(1, 0, 9), 2);
        Fieldwire y = farDesks(0, 63);
        y.wire(0, 1, false);
        y.write(0, 1, 2, 1, 0, false, 0);
        y.state(0, 1);
        y.write(0, 1, 2, 1, 0, false, 0);
        y.pass(3);
        Due.is("one as old does not count", y.belief(1, 0, 0), 0);
        Due.is("it is not right by now", y.belief(1, 0, 2), 0);
        Due.is("the first desk believes nothing", y.belief(0, 1, 1), -1);
        Due.is("the state of the goal stays", y.ofDesk(1, 6), 0);
    }

    private static void orders() {
        Fieldwire x = farDesks(0, 63);
        x.write(0, 1, 2, 1, 0, true, 3);
        x.write(0, 1, 2, 1, 0, true, 4);
        x.pass(1);
        x.write(0, 1, 0, 1, 0, true, 5);
        x.pass(1);
        x.write(0, 1, 1, 1, 0, true, 6);
        x.wire(0, 1, false);
        x.state(1, 9);
        x.pass(2);
        Due.is("carried out", x.ofDesk(1, 6), 5);
        Due.is("done", x.ofDesk(1, 9), 1);
        Due.is("its origin", x.ofDesk(1, 13), 1);
        x.pass(1);
        Due.is("a later one", x.ofDesk(1, 6), 6);
        Due.is("done", x.ofDesk(1, 9), 2);
        x.state(1, 8);
        x.pass(2);
        Due.is("too late", x.ofDesk(1, 10), 2);
        Due.is("not carried out", x.ofDesk(1, 6), 8);
        Due.is("its origin", x.ofDesk(1, 13), 2);
        Due.is("known ones", x.ofDesk(1, 11), 4);
        Due.is("an order tells nothing of its desk", x.belief(1, 0, 1), -1);
        x.write(0, 1, 1, 1, 0, true, 7);
        x.write(0, 1, 1, 1, 0, true, 2);
        x.pass(3);
        Due.is("as old as the last one: too late", x.ofDesk(1, 6), 7);
        Due.is("too late", x.ofDesk(1, 10), 3);
    }

    private static void call() {
        Fieldwire x = new Fieldwire();
        long before = x.digest();
        Due.is("call()", x.call(), 1);
        Due.is("call()", x.call(), 2);
        Due.is("digest()", x.digest(), before);
    }
}
