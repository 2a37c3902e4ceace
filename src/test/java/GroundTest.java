/** Promises 1 to 9: a new object, ground, desks, wires, shells, linesmen, moves and birds. */
public final class GroundTest {
    public static void main(String[] args) {
        aNewObject();
        ground();
        desk();
        state();
        wire();
        shellOnWires();
        shellOnMen();
        smoke();
        mend();
        mendTogether();
        mendIsRefused();
        move();
        birds();
        Due.end("GroundTest");
    }

    private static void aNewObject() {
        Fieldwire x = new Fieldwire();
        for (int what = 0; what <= 16; what++) {
            Due.is("new: field(" + what + ")", x.field(what), what == 10 ? -1 : what == 13 ? 1 : 0);
        }
        for (int cell = 0; cell < 64; cell++) {
            for (int what = 0; what <= 5; what++) {
                Due.is("new: ofCell(" + cell + ", " + what + ")", x.ofCell(cell, what), 0);
            }
        }
        Due.is("new: isSound()", x.isSound(), true);
        x.desk(0, 1, 0, 0, false);
        Due.is("new: the book", x.ofDesk(0, 7), 1);
    }

    private static void ground() {
        Fieldwire x = new Fieldwire();
        Due.is("ground of nothing new", x.ground(0, 63, 0, 0), 0);
        Due.is("ground(3, 5, 9, 3)", x.ground(3, 5, 9, 3), 3);
        Due.is("ground(5, 7, 9, 3)", x.ground(5, 7, 9, 3), 2);
        Due.is("ground(5, 5, 8, 3)", x.ground(5, 5, 8, 3), 1);
        Due.is("ground(4, 4, 9, 1)", x.ground(4, 4, 9, 1), 1);
        Due.is("height of 3", x.ofCell(3, 0), 9);
        Due.is("sort of 3", x.ofCell(3, 1), 3);
        Due.is("height of 5", x.ofCell(5, 0), 8);
        Due.is("sort of 4", x.ofCell(4, 1), 1);
        Due.is("height of 2", x.ofCell(2, 0), 0);
        Due.is("height of 8", x.ofCell(8, 0), 0);
        Due.is("all", x.ground(0, 63, 1, 2), 64);
        Due.noIndex("ground(-1, 3, 0, 0)", x, () -> x.ground(-1, 3, 0, 0));
        Due.noIndex("ground(64, 64, 0, 0)", x, () -> x.ground(64, 64, 0, 0));
        Due.noIndex("ground(0, 64, 0, 0)", x, () -> x.ground(0, 64, 0, 0));
        Due.noIndex("ground(3, -1, 10, 4)", x, () -> x.ground(3, -1, 10, 4));
        Due.noArgument("ground(4, 3, 0, 0)", x, () -> x.ground(4, 3, 0, 0));
        Due.noArgument("ground(0, 3, -1, 0)", x, () -> x.ground(0, 3, -1, 0));
        Due.noArgument("ground(0, 3, 10, 0)", x, () -> x.ground(0, 3, 10, 0));
        Due.noArgument("ground(0, 3, 0, -1)", x, () -> x.ground(0, 3, 0, -1));
        Due.noArgument("ground(0, 3, 0, 4)", x, () -> x.ground(0, 3, 0, 4));
    }

    private static void desk() {
        Fieldwire x = new Fieldwire();
        Due.noIndex("desk(-1, ..)", x, () -> x.desk(-1, 1, 0, 0, true));
        Due.noIndex("desk(64, 0, ..)", x, () -> x.desk(64, 0, 0, 0, true));
        Due.noArgument("no cords", x, () -> x.desk(0, 0, 0, 0, true));
        Due.noArgument("5 cords", x, () -> x.desk(0, 5, 0, 0, true));
        Due.noArgument("-1 runners", x, () -> x.desk(0, 1, -1, 0, true));
        Due.noArgument("10 runners", x, () -> x.desk(0, 1, 10, 0, true));
        Due.noArgument("-1 linesmen", x, () -> x.desk(0, 1, 0, -1, true));
        Due.noArgument("10 linesmen", x, () -> x.desk(0, 1, 0, 10, true));
        Due.is("desk(63, 4, 9, 8, true)", x.desk(63, 4, 9, 8, true), 0);
        Due.is("desk(63, 1, 0, 0, false)", x.desk(63, 1, 0, 0, false), 1);
        int[] first = {63, 4, 4, 9, 8, 60, 0, 1, 0, 0, 0, 0, 0, -1};
        int[] second = {63, 1, 1, 0, 0, -1, 0, 1, 0, 0, 0, 0, 0, -1};
        for (int what = 0; what <= 13; what++) {
            Due.is("ofDesk(0, " + what + ")", x.ofDesk(0, what), first[what]);
            Due.is("ofDesk(1, " + what + ")", x.ofDesk(1, what), second[what]);
        }
        Due.is("desks at 63", x.ofCell(63, 5), 2);
        for (int number = 2; number < 6; number++) {
            Due.is("the next desk", x.desk(number, 1, 1, 1, false), number);
        }
        Due.noState("a 7th desk", x, () -> x.desk(0, 1, 0, 0, true));
        Due.noArgument("a 7th desk without cords", x, () -> x.desk(0, 0, 0, 0, true));
        Due.noIndex("a 7th desk nowhere", x, () -> x.desk(64, 0, 0, 0, true));
        Due.is("desks", x.field(1), 6);
        Due.is("isSound()", x.isSound(), true);
    }

    private static void state() {
        Fieldwire x = new Fieldwire();
        Due.noIndex("state of no desk", x, () -> x.state(0, 100));
        x.desk(0, 1, 0, 0, false);
        Due.is("state(0, 99)", x.state(0, 99), 0);
        Due.is("state(0, -99)", x.state(0, -99), 99);
        Due.is("ofDesk(0, 6)", x.ofDesk(0, 6), -99);
        Due.noArgument("state(0, 100)", x, () -> x.state(0, 100));
        Due.noArgument("state(0, -100)", x, () -> x.state(0, -100));
        Due.noIndex("state(-1, 0)", x, () -> x.state(-1, 0));
        Due.noIndex("state(1, 0)", x, () -> x.state(1, 0));
    }

    private static void wire() {
        Fieldwire x = new Fieldwire();
        x.desk(0, 1, 0, 0, false);
        x.desk(21, 1, 0, 0, false);
        x.desk(0, 1, 0, 0, false);
        Due.is("wire(1, 0, true)", x.wire(1, 0, true), 0);
        Due.is("wire(0, 1, false)", x.wire(0, 1, false), 1);
        Due.is("wire(0, 2, false)", x.wire(0, 2, false), 2);
        int[][] due = {{1, 0, 6, 0, 6, 0, -1, 0}, {0, 1, 6, 0, 0, 0, -1, 0}, {0, 2, 1, 0, 0, 0, -1, 0}};
        for (int wire = 0; wire < 3; wire++) {
            for (int what = 0; what <= 7; what++) {
                Due.is("ofWire(" + wire + ", " + what + ")", x.ofWire(wire, what), due[wire][what]);
            }
        }
        // from 21 to 0: across to 12 and 3, then straight on; from 0 to 21: across to 9 and 18, then straight on
        Due.is("wires through 12", x.ofCell(12, 3), 1);
        Due.is("wires through 2", x.ofCell(2, 3), 1);
        Due.is("wires through 18", x.ofCell(18, 3), 1);
        Due.is("wires through 0", x.ofCell(0, 3), 3);
        Due.is("wires through 10", x.ofCell(10, 3), 0);
        Due.noIndex("wire(-1, 0, ..)", x, () -> x.wire(-1, 0, true));
        Due.noIndex("wire(3, 3, ..)", x, () -> x.wire(3, 3, true));
        Due.noIndex("wire(0, 3, ..)", x, () -> x.wire(0, 3, true));
        Due.noArgument("wire(1, 1, ..)", x, () -> x.wire(1, 1, true));
        for (int number = 3; number < 10; number++) {
            Due.is("the next wire", x.wire(1, 2, false), number);
        }
        Due.noState("an 11th wire", x, () -> x.wire(0, 1, true));
        Due.noArgument("an 11th wire to itself", x, () -> x.wire(1, 1, true));
        Due.noIndex("an 11th wire to nobody", x, () -> x.wire(1, 3, true));
    }

    private static void shellOnWires() {
        Fieldwire x = new Fieldwire();
        x.desk(0, 1, 0, 0, false);
        x.desk(3, 1, 0, 0, false);
        x.wire(0, 1, false);
        x.wire(1, 0, false);
        x.wire(0, 1, true);
        Due.is("shell(9)", x.shell(9), 0);
        Due.is("shell(1)", x.shell(1), 2);
        Due.is("broken at 1", x.ofCell(1, 4), 2);
        Due.is("broken of wire 0", x.ofWire(0, 3), 1);
        Due.is("the buried one holds", x.ofWire(2, 3), 0);
        Due.is("it is plain there alone", x.ofWire(2, 4), 3);
        Due.is("route(0, 1) by the third wire", x.route(0, 1), 1);
        Due.is("shell(1) again breaks that alone", x.shell(1), 1);
        Due.is("broken at 1", x.ofCell(1, 4), 3);
        Due.is("route(0, 1)", x.route(0, 1), -1);
        Due.is("shell(1), a third time", x.shell(1), 0);
        Due.is("shell(0): at its end", x.shell(0), 2);
        Due.is("broken of wire 1", x.ofWire(1, 3), 2);
        Due.is("move(1, 4)", x.move(1, 4), 3);
        Due.is("shell(2) on dead wires", x.shell(2), 0);
        Due.is("dead ones through 1", x.ofCell(1, 3), 0);
        Due.is("dead ones broken at 1", x.ofCell(1, 4), 0);
        Due.is("a dead one stays broken", x.ofWire(0, 3), 2);
        Due.is("a dead one is not uncovered", x.ofWire(2, 4), 2);
        Due.noIndex("shell(-1)", x, () -> x.shell(-1));
        Due.noIndex("shell(64)", x, () -> x.shell(64));
    }

    /** Two desks in row 2 that do not see each other, for runners: 16, 17 (wood), 18, 19. */
    private static Fieldwire forRunners() {
        Fieldwire x = new Fieldwire();
        x.ground(17, 17, 0, 1);
        x.desk(16, 1, 3, 1, false);
        x.desk(19, 1, 0, 0, false);
        x.write(0, 1, 0, 1, 0, false, 0);
        x.pass(1);
        Due.is("by runner", x.ofMessage(0, 10), 3);
        Due.is("6 + 4 + 4 minutes", x.ofMessage(0, 11), 14);
        return x;
    }

    private static void shellOnMen() {
        Fieldwire x = forRunners();
        x.shell(16);
        x.shell(18);
        Due.is("not where he starts, not ahead of him", x.ofMessage(0, 8), 1);
        x.shell(17);
        Due.is("lost with his message", x.ofMessage(0, 8), 3);
        Due.is("no minutes are left", x.ofMessage(0, 11), 0);
        Due.is("a runner is lost", x.field(15), 1);
        Due.is("lost ones", x.field(7), 1);
        Due.is("isSound()", x.isSound(), true);

        Fieldwire y = forRunners();
        y.pass(5);
        y.shell(18);
        Due.is("still in the wood", y.field(15), 0);
        y.pass(1);
        y.shell(17);
        Due.is("not in the wood any more", y.field(15), 0);
        y.shell(18);
        Due.is("behind the wood", y.field(15), 1);

        Fieldwire z = forRunners();
        z.pass(13);
        Due.is("one minute left", z.ofMessage(0, 11), 1);
        z.shell(19);
        Due.is("at its goal's cell", z.ofMessage(0, 8), 3);
        Due.is("he is not there", z.ofDesk(1, 3), 0);

        Fieldwire u = new Fieldwire();
        u.desk(20, 1, 1, 0, false);
        u.desk(20, 1, 0, 0, false);
        u.shell(20);
        u.write(0, 1, 0, 99, 0, false, 0);
        u.pass(1);
        Due.is("one minute to the same cell", u.ofMessage(0, 11), 1);
        Due.is("by runner, for the smoke", u.ofMessage(0, 10), 3);
        u.shell(20);
        Due.is("he is at no cell", u.field(15), 0);
        u.pass(1);
        Due.is("he came", u.tell(0), "0: report 0>1 came");
        Due.is("and is a runner there", u.ofDesk(1, 3), 1);
    }

    private static void smoke() {
        Fieldwire x = new Fieldwire();
        x.shell(10);
        Due.is("smoke", x.ofCell(10, 2), 5);
        Due.is("no smoke beside it", x.ofCell(11, 2), 0);
        x.pass(3);
        Due.is("3 minutes later", x.ofCell(10, 2), 2);
        x.shell(10);
        Due.is("5 at least", x.ofCell(10, 2), 5);
        x.pass(4);
        Due.is("sees itself in smoke", x.sees(10, 10), false);
        Due.is("sees through it", x.sees(9, 11), false);
        x.pass(1);
        Due.is("it is gone", x.ofCell(10, 2), 0);
        Due.is("sees itself", x.sees(10, 10), true);
        x.pass(1);
        Due.is("never below 0", x.ofCell(10, 2), 0);
    }

    private static void mend() {
        Fieldwire x = new Fieldwire();
        x.ground(1, 1, 0, 1);
        x.ground(2, 2, 0, 2);
        x.ground(3, 3, 0, 3);
        x.desk(0, 1, 0, 2, false);
        x.desk(3, 1, 0, 1, false);
        x.wire(0, 1, false);
        x.shell(1);
        x.shell(2);
        Due.is("mend(1, 0)", x.mend(1, 0), 0);
        x.ground(0, 63, 0, 0);
        Due.is("one is on it", x.ofWire(0, 7), 1);
        Due.is("field(14)", x.field(14), 1);
        x.pass(21);
        // water 9, trench 3: he stands at 2 from 12 to 22, in the wood to 28, stands there to 38, and at 0 to 42
        Due.is("at 21 both are broken", x.ofWire(0, 3), 2);
        x.pass(1);
        Due.is("at 22 one is", x.ofWire(0, 3), 1);
        Due.is("at 22 not that at 2", x.ofCell(2, 4), 0);
        x.pass(15);
        Due.is("at 37 it is not whole", x.route(0, 1), -1);
        x.pass(1);
        Due.is("at 38 it is whole", x.route(0, 1), 1);
        x.move(0, 40);
        x.pass(3);
        Due.is("at 41 he is on it", x.ofWire(0, 7), 1);
        x.pass(1);
        Due.is("at 42 he is not", x.ofWire(0, 7), 0);
        Due.is("but at the desk that moved", x.ofDesk(0, 4), 3);
        Due.is("none came back", x.ofDesk(1, 4), 0);
        Due.is("isSound()", x.isSound(), true);

        Fieldwire y = new Fieldwire();
        y.desk(0, 1, 0, 2, false);
        y.desk(2, 1, 0, 0, false);
        y.wire(0, 1, true);
        y.shell(1);
        y.shell(1);
        Due.is("mend(0, 0)", y.mend(0, 0), 1);
        y.shell(1);
        Due.is("he is at the desk's cell first", y.field(16), 0);
        y.move(1, 9);
        y.pass(18);
        Due.is("he mends a dead wire too", y.ofWire(0, 3), 0);
        Due.is("it is not buried again", y.ofWire(0, 4), 2);
        y.pass(3);
        y.shell(2);
        Due.is("lost at the last cell", y.field(16), 1);
        Due.is("none is under way", y.field(14), 0);
        y.pass(9);
        Due.is("nor comes there", y.ofDesk(1, 4), 0);
        Due.is("isSound()", y.isSound(), true);

        Fieldwire z = new Fieldwire();
        z.desk(0, 1, 0, 1, false);
        z.desk(0, 1, 0, 0, false);
        z.wire(0, 1, false);
        z.mend(0, 0);
        z.pass(3);
        z.shell(1);
        Due.is("a shell beside him", z.field(14), 1);
        z.shell(0);
        Due.is("a shell at the desk's cell", z.field(16), 1);
    }

    /** He stands for 10 minutes, whatever others do; who comes later finds what is mended. */
    private static void mendTogether() {
        Fieldwire x = new Fieldwire();
        x.desk(0, 1, 0, 9, false);
        x.desk(2, 1, 0, 0, false);
        x.wire(0, 1, false);
        x.shell(1);
        x.mend(0, 0);
        x.pass(5);
        x.mend(0, 0);
        x.pass(5);
        x.mend(0, 0);
        x.pass(8);
        Due.is("at 18 the first one has mended it", x.ofWire(0, 3), 0);
        x.pass(4);
        Due.is("at 22 the first and the third one are there", x.ofDesk(1, 4), 2);
        x.pass(4);
        Due.is("at 26 the second one is on the last cell", x.field(14), 1);
        x.pass(1);
        Due.is("at 27 all are there", x.ofDesk(1, 4), 3);

        Fieldwire y = new Fieldwire();
        y.desk(0, 1, 0, 1, false);
        y.desk(7, 1, 0, 1, false);
        y.wire(0, 1, false);
        y.shell(0);
        y.mend(1, 0);
        y.pass(18);
        y.mend(0, 0);
        y.pass(14);
        Due.is("at 32 it is mended", y.ofWire(0, 3), 0);
        Due.is("but the one sent first found it broken", y.ofWire(0, 7), 2);
        y.pass(9);
        Due.is("at 41 he stands there yet", y.ofDesk(0, 4), 0);
        y.pass(1);
        Due.is("at 42 he is there", y.ofDesk(0, 4), 1);
    }

    private static void mendIsRefused() {
        Fieldwire x = new Fieldwire();
        x.desk(0, 1, 0, 1, false);
        x.desk(2, 1, 0, 1, false);
        x.desk(4, 1, 0, 1, false);
        x.wire(0, 1, false);
        Due.noIndex("mend(3, 0)", x, () -> x.mend(3, 0));
        Due.noIndex("mend(-1, 0)", x, () -> x.mend(-1, 0));
        Due.noIndex("mend(2, 1)", x, () -> x.mend(2, 1));
        Due.noIndex("mend(0, -1)", x, () -> x.mend(0, -1));
        Due.noState("mend(2, 0): at no end", x, () -> x.mend(2, 0));
        x.mend(1, 0);
        Due.noState("mend(1, 0): no linesman", x, () -> x.mend(1, 0));
        x.move(1, 3);
        Due.noState("mend(0, 0): dead", x, () -> x.mend(0, 0));
    }

    private static void move() {
        Fieldwire x = new Fieldwire();
        x.desk(0, 1, 0, 0, false);
        x.desk(2, 1, 0, 0, false);
        x.desk(4, 1, 0, 0, false);
        x.wire(0, 1, false);
        x.wire(1, 2, false);
        x.wire(0, 1, true);
        Due.noArgument("move(0, 0)", x, () -> x.move(0, 0));
        Due.noIndex("move(3, 0)", x, () -> x.move(3, 0));
        Due.noIndex("move(-1, 0)", x, () -> x.move(-1, 0));
        Due.noIndex("move(0, 64)", x, () -> x.move(0, 64));
        Due.noIndex("move(0, -1)", x, () -> x.move(0, -1));
        Due.is("move(0, 4)", x.move(0, 4), 2);
        Due.is("its cell", x.ofDesk(0, 0), 4);
        Due.is("desks at 4", x.ofCell(4, 5), 2);
        Due.is("wire 0", x.ofWire(0, 5), 1);
        Due.is("wire 1", x.ofWire(1, 5), 0);
        Due.is("wire 2", x.ofWire(2, 5), 1);
        Due.is("route(0, 1)", x.route(0, 1), -1);
        Due.is("back again: dead for good", x.move(0, 0), 0);
        Due.is("wire 0", x.ofWire(0, 5), 1);
        Due.is("move(1, 5): the others are dead already", x.move(1, 5), 1);
    }

    private static void birds() {
        Fieldwire x = new Fieldwire();
        x.desk(0, 1, 0, 0, false);
        x.desk(2, 1, 0, 0, false);
        Due.is("birds(0, 1, 9)", x.birds(0, 1, 9), 0);
        Due.is("birds(0, 1, 4)", x.birds(0, 1, 4), 9);
        Due.is("ofBirds(0, 1)", x.ofBirds(0, 1), 4);
        Due.is("ofBirds(1, 0)", x.ofBirds(1, 0), 0);
        Due.is("ofBirds(0, 0)", x.ofBirds(0, 0), 0);
        Due.is("birds(0, 1, 0)", x.birds(0, 1, 0), 4);
        Due.is("ofBirds(0, 1)", x.ofBirds(0, 1), 0);
        Due.noArgument("birds(0, 0, 1)", x, () -> x.birds(0, 0, 1));
        Due.noArgument("birds(0, 1, -1)", x, () -> x.birds(0, 1, -1));
        Due.noArgument("birds(0, 1, 10)", x, () -> x.birds(0, 1, 10));
        Due.noIndex("birds(2, 2, 1)", x, () -> x.birds(2, 2, 1));
        Due.noIndex("birds(0, 2, 10)", x, () -> x.birds(0, 2, 10));
        Due.noIndex("birds(-1, 0, 1)", x, () -> x.birds(-1, 0, 1));
        Due.noIndex("ofBirds(2, 0)", x, () -> x.ofBirds(2, 0));
        Due.noIndex("ofBirds(0, -1)", x, () -> x.ofBirds(0, -1));
    }
}
