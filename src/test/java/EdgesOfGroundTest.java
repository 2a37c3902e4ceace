/** Sections 0 to 2 of the document: a test for each sentence that names a boundary case. */
public final class EdgesOfGroundTest {
    public static void main(String[] args) {
        minute();
        night();
        cellsByRows();
        heightAndSort();
        groundCounts();
        steps();
        courses();
        coursesOfAllCells();
        seesOverHeights();
        seesWoodsAndSmokeBetween();
        seesAtTheEnds();
        seesAlongTheCourseOfTheSmallerNumber();
        paceOfRunners();
        paceOfLinesmen();
        paceBothWays();
        paceAsSent();
        sixDesks();
        menAboveNine();
        tenWires();
        shortestAndLongestWire();
        deadForGood();
        shellsOnPlainWires();
        shellsOnBuriedWires();
        shellsOnLinesmen();
        shellsOnRunners();
        shellOnAllAtACell();
        smoke();
        linesmanStandsTenMinutes();
        linesmanMendsAllCells();
        linesmenWhateverOthersDo();
        brokenBehindHimStays();
        linesmanOnADeadWire();
        lastLinesman();
        Due.end("EdgesOfGroundTest");
    }

    /** "MINUTE is 0 at first, 2880 at most" */
    private static void minute() {
        Fieldwire x = new Fieldwire();
        Due.is("MINUTE at first", x.field(0), 0);
        Due.is("pass(1)", x.pass(1), 1);
        Due.is("pass(239)", x.pass(239), 240);
        Made.pass(x, 2400);
        Due.is("the last 240", x.pass(240), 2880);
        Due.noState("pass(1) at 2880", x, () -> x.pass(1));
        Due.noState("pass(240) at 2880", x, () -> x.pass(240));
        Due.is("MINUTE at the end", x.field(0), 2880);

        Fieldwire y = new Fieldwire();
        Made.pass(y, 2641);
        Due.noState("240 more at 2641", y, () -> y.pass(240));
        Due.is("239 more at 2641", y.pass(239), 2880);
    }

    /** "it is NIGHT, if MINUTE / 60 modulo 24 is below 6 or above 18" */
    private static void night() {
        int[][] due = {{0, 1}, {59, 1}, {359, 1}, {360, 0}, {1139, 0}, {1140, 1}, {1439, 1}, {1440, 1}, {1799, 1},
            {1800, 0}, {2579, 0}, {2580, 1}, {2879, 1}, {2880, 1}};
        for (int[] row : due) {
            Fieldwire x = new Fieldwire();
            Made.pass(x, row[0]);
            Due.is("NIGHT at " + row[0], x.field(13), row[1]);
        }
    }

    /** "8 by 8 CELLS, numbered row * 8 + column": the end of a row is not beside the start of the next one. */
    private static void cellsByRows() {
        Fieldwire x = new Fieldwire();
        int[] due = {7, 14, 13, 12, 11, 10, 9, 8, -1};
        for (int nth = 0; nth < due.length; nth++) {
            Due.is("course(7, 8, " + nth + ")", x.course(7, 8, nth), due[nth]);
        }
        x.ground(0, 63, 0, 1);
        Due.is("7 and 8 do not see each other in woods", x.sees(7, 8), false);
        Due.is("7 and 15 do", x.sees(7, 15), true);
        Due.is("the first CELL", x.ofCell(0, 1), 1);
        Due.is("the last CELL", x.ofCell(63, 1), 1);
        Due.noIndex("behind it", x, () -> x.ofCell(64, 1));
        Due.noIndex("ahead of the first one", x, () -> x.ofCell(-1, 1));
    }

    /** "Each has a HEIGHT (0 to 9; 0 at first) and a SORT (0 open at first, 1 wood, 2 trench, 3 water)" */
    private static void heightAndSort() {
        Fieldwire x = new Fieldwire();
        Due.is("height at first", x.ofCell(63, 0), 0);
        Due.is("sort at first", x.ofCell(63, 1), 0);
        for (int height = 0; height <= 9; height++) {
            for (int sort = 0; sort <= 3; sort++) {
                x.ground(63, 63, height, sort);
                Due.is("height", x.ofCell(63, 0), height);
                Due.is("sort", x.ofCell(63, 1), sort);
            }
        }
    }

    /** "Returns how many CELLS become another one by that": none, one, those between across rows, all. */
    private static void groundCounts() {
        Fieldwire x = new Fieldwire();
        Due.is("none", x.ground(0, 63, 0, 0), 0);
        Due.is("the first one", x.ground(0, 0, 1, 0), 1);
        Due.is("the last one, by its SORT alone", x.ground(63, 63, 0, 1), 1);
        Due.is("over the end of a row", x.ground(7, 8, 0, 2), 2);
        Due.is("6 is as it was", x.ofCell(6, 1), 0);
        Due.is("9 is as it was", x.ofCell(9, 1), 0);
        Due.is("by HEIGHT alone", x.ground(7, 7, 9, 2), 1);
        Due.is("all but one", x.ground(0, 63, 9, 2), 63);
        Due.is("all", x.ground(0, 63, 9, 3), 64);
        Due.is("none again", x.ground(0, 63, 9, 3), 0);
        Due.noArgument("to is below from", x, () -> x.ground(8, 7, 0, 0));
    }

    /** "STEPS between two CELLS: the greater one of ABS of what their rows and what their columns differ by" */
    private static void steps() {
        int[][] due = {{0, 0, 0}, {0, 1, 1}, {1, 0, 1}, {0, 8, 1}, {0, 9, 1}, {9, 0, 1}, {1, 8, 1}, {0, 17, 2}, {10, 0, 2},
            {7, 8, 7}, {8, 7, 7}, {0, 7, 7}, {56, 0, 7}, {0, 63, 7}, {63, 0, 7}, {7, 56, 7}, {18, 61, 5}, {35, 35, 0}};
        for (int[] row : due) {
            Fieldwire x = Made.desks(row[0], row[1]);
            Made.pass(x, 360);
            x.birds(0, 1, 1);
            Made.report(x, 0, 1, 1);
            Due.is("a bird from " + row[0] + " to " + row[1], x.fly(0), row[2] + 1);
        }
    }

    /** "as long as both rows and columns differ across, then straight on" */
    private static void courses() {
        Fieldwire x = new Fieldwire();
        int[][] due = {{0, 0}, {63, 63}, {0, 1, 1}, {1, 0, 0}, {0, 9, 9}, {0, 10, 9, 10}, {10, 0, 1, 0}, {0, 17, 9, 17},
            {17, 0, 8, 0}, {0, 7, 1, 2, 3, 4, 5, 6, 7}, {63, 0, 54, 45, 36, 27, 18, 9, 0}};
        for (int[] row : due) {
            Due.is("the first one", x.course(row[0], row[1], 0), row[0]);
            for (int nth = 1; nth < row.length - 1; nth++) {
                Due.is("course(" + row[0] + ", " + row[1] + ", " + nth + ")", x.course(row[0], row[1], nth), row[nth + 1]);
            }
            Due.is("behind the last one", x.course(row[0], row[1], row.length - 1), -1);
        }
        Due.is("behind itself", x.course(5, 5, 1), -1);
        Due.is("far behind", x.course(5, 5, Integer.MAX_VALUE), -1);
        Due.is("a CELL behind 8 ones", x.course(0, 63, 8), -1);
    }

    /** Each COURSE has as many CELLS as STEPS and one; all across ones come ahead of the straight ones. */
    private static void coursesOfAllCells() {
        Fieldwire x = new Fieldwire();
        for (int from = 0; from < 64; from++) {
            for (int to = 0; to < 64; to++) {
                int rows = Math.abs(from / 8 - to / 8);
                int columns = Math.abs(from % 8 - to % 8);
                boolean isGood = true;
                for (int nth = 0; nth <= Math.max(rows, columns); nth++) {
                    int cell = x.course(from, to, nth);
                    isGood &= Math.abs(cell / 8 - to / 8) == Math.max(0, rows - nth);
                    isGood &= Math.abs(cell % 8 - to % 8) == Math.max(0, columns - nth);
                }
                isGood &= x.course(from, to, Math.max(rows, columns)) == to;
                isGood &= x.course(from, to, Math.max(rows, columns) + 1) == -1;
                Due.is("the course from " + from + " to " + to + " is good", isGood, true);
            }
        }
    }

    /** "or has a HEIGHT above both of theirs" */
    private static void seesOverHeights() {
        int[][] due = {{0, 0, 0, 1}, {0, 0, 1, 0}, {3, 5, 5, 1}, {5, 3, 5, 1}, {3, 5, 6, 0}, {5, 3, 6, 0}, {3, 5, 4, 1},
            {9, 0, 9, 1}, {0, 9, 9, 1}, {8, 8, 9, 0}, {8, 8, 8, 1}};
        for (int[] row : due) {
            for (int between = 17; between <= 18; between++) {
                Fieldwire x = new Fieldwire();
                x.ground(16, 16, row[0], 0);
                x.ground(19, 19, row[1], 0);
                x.ground(between, between, row[2], 0);
                String told = row[2] + " between " + row[0] + " and " + row[1];
                Due.is(told, x.sees(16, 19), row[3] == 1);
                Due.is(told + ", asked from there", x.sees(19, 16), row[3] == 1);
            }
        }
        Fieldwire x = new Fieldwire();
        x.ground(17, 17, 9, 0);
        Due.is("nothing is between those side by side", x.sees(16, 17), true);
        Due.is("a height beside the course", x.sees(8, 10), true);
    }

    /** "no CELL of the COURSE .. but both ends, has SMOKE, or is a wood": a trench and water are none. */
    private static void seesWoodsAndSmokeBetween() {
        for (int between = 1; between <= 6; between++) {
            for (int sort = 0; sort <= 3; sort++) {
                Fieldwire x = new Fieldwire();
                x.ground(between, between, 0, sort);
                Due.is("sort " + sort + " at " + between, x.sees(0, 7), sort != 1);
            }
            Fieldwire y = new Fieldwire();
            y.shell(between);
            Due.is("smoke at " + between, y.sees(7, 0), false);
            y.pass(4);
            Due.is("the last minute of smoke", y.sees(0, 7), false);
            y.pass(1);
            Due.is("smoke is gone", y.sees(0, 7), true);
        }
        Fieldwire x = new Fieldwire();
        x.ground(8, 63, 9, 1);
        x.shell(9);
        Due.is("all of it beside the course", x.sees(0, 7), true);
    }

    /** "and neither end has SMOKE"; ends may be woods and of any HEIGHT; "one alone: whether it has no SMOKE" */
    private static void seesAtTheEnds() {
        Fieldwire x = new Fieldwire();
        x.ground(0, 0, 9, 1);
        x.ground(7, 7, 0, 1);
        Due.is("both ends are woods", x.sees(0, 7), true);
        Due.is("one alone, a wood", x.sees(0, 0), true);
        x.shell(7);
        Due.is("smoke at the greater end", x.sees(0, 7), false);
        Due.is("smoke at the first end", x.sees(7, 0), false);
        Due.is("one alone in smoke", x.sees(7, 7), false);
        Due.is("side by side, one in smoke", x.sees(6, 7), false);
        x.pass(5);
        Due.is("one alone, the smoke is gone", x.sees(7, 7), true);
        x.shell(0);
        Due.is("smoke at the smaller end", x.sees(0, 7), false);
        x.pass(1);
        x.shell(40);
        x.pass(3);
        Due.is("the last minute of smoke", x.ofCell(0, 2), 1);
        Due.is("at the smaller end", x.sees(0, 7), false);
        Due.is("at the greater end", x.sees(41, 0), false);
        x.pass(1);
        Due.is("the last minute of smoke at 40", x.sees(36, 40), false);
        Due.is("it is gone at 0", x.sees(0, 7), true);
    }

    /** "the COURSE from the smaller number to the greater one" */
    private static void seesAlongTheCourseOfTheSmallerNumber() {
        // from 0 to 10 by 9, from 10 to 0 by 1
        Fieldwire x = new Fieldwire();
        x.ground(1, 1, 0, 1);
        Due.is("sees(0, 10) by 9", x.sees(0, 10), true);
        Due.is("sees(10, 0) by 9", x.sees(10, 0), true);
        x.ground(9, 9, 0, 1);
        Due.is("sees(0, 10), a wood at 9", x.sees(0, 10), false);
        Due.is("sees(10, 0), a wood at 9", x.sees(10, 0), false);
    }

    /** "A CELL takes PACE MINUTES to walk: 4 open, 6 wood, 3 trench, 9 water" */
    private static void paceOfRunners() {
        int[] pace = {4, 6, 3, 9};
        for (int sort = 0; sort <= 3; sort++) {
            // smoke at both ends, so that no lamp is seen
            Fieldwire x = new Fieldwire();
            x.ground(17, 17, 0, sort);
            x.ground(16, 16, 0, 3 - sort);
            x.desk(16, 1, 1, 0, false);
            x.desk(17, 1, 0, 0, false);
            x.shell(16);
            Made.report(x, 0, 1, 99);
            x.pass(1);
            Due.is("a runner to sort " + sort + ", not where he starts", x.ofMessage(0, 11), pace[sort]);
            x.pass(pace[sort] - 1);
            Due.is("one minute ahead", x.ofMessage(0, 8), 1);
            x.pass(1);
            Due.is("he is there", x.ofMessage(0, 8), 2);
        }
    }

    /** "PACE of a CELL for each CELL (that of the DESK too)" */
    private static void paceOfLinesmen() {
        int[] pace = {4, 6, 3, 9};
        for (int first = 0; first <= 3; first++) {
            for (int last = 0; last <= 3; last++) {
                Fieldwire x = Made.desks(0, 1);
                x.desk(0, 1, 0, 1, false);
                x.ground(0, 0, 0, first);
                x.ground(1, 1, 0, last);
                x.wire(2, 1, false);
                x.mend(2, 0);
                x.pass(pace[first] + pace[last] - 1);
                Due.is("under way yet", x.field(14), 1);
                Due.is("none is there", x.ofDesk(1, 4), 0);
                x.pass(1);
                Due.is("none is under way", x.field(14), 0);
                Due.is("he is there", x.ofDesk(1, 4), 1);
            }
        }
    }

    /** A RUNNER goes along the COURSE from where he is; a LINESMAN along that of the WIRE, "from the other end: backwards". */
    private static void paceBothWays() {
        // from 0 to 10 by 9, from 10 to 0 by 1
        for (int from = 0; from <= 1; from++) {
            Fieldwire x = new Fieldwire();
            x.ground(9, 9, 0, 1);
            x.ground(1, 1, 0, 3);
            x.desk(0, 1, 1, 1, false);
            x.desk(10, 1, 1, 1, false);
            Made.report(x, from, 1 - from, 1);
            x.pass(1);
            Due.is("a runner from " + from, x.ofMessage(0, 11), from == 0 ? 10 : 13);
            x.wire(0, 1, false);
            x.mend(from, 0);
            x.pass(13);
            Due.is("a linesman from " + from, x.ofDesk(1 - from, 4), 1);
            x.pass(1);
            Due.is("by the wood: 4 + 6 + 4", x.ofDesk(1 - from, 4), 2);
        }
        // of a WIRE from 10 to 0, by 1
        for (int from = 0; from <= 1; from++) {
            Fieldwire x = new Fieldwire();
            x.ground(9, 9, 0, 1);
            x.ground(1, 1, 0, 3);
            x.desk(0, 1, 0, 1, false);
            x.desk(10, 1, 0, 1, false);
            x.wire(1, 0, false);
            x.mend(from, 0);
            x.pass(16);
            Due.is("a linesman from " + from, x.ofDesk(1 - from, 4), 1);
            x.pass(1);
            Due.is("by the water: 4 + 9 + 4", x.ofDesk(1 - from, 4), 2);
        }
    }

    /** "(as its SORT is when somebody is sent)" */
    private static void paceAsSent() {
        Fieldwire x = new Fieldwire();
        x.ground(17, 17, 0, 1);
        x.desk(16, 1, 2, 2, false);
        x.desk(18, 1, 0, 0, false);
        Made.report(x, 0, 1, 1);
        x.pass(1);
        x.ground(16, 18, 0, 3);
        Due.is("a runner: 6 + 4 as he was sent", x.ofMessage(0, 11), 10);
        x.ground(17, 17, 0, 1);
        Made.report(x, 0, 1, 1);
        x.pass(1);
        Due.is("the next runner: 6 + 9", x.ofMessage(1, 11), 15);
        x.wire(0, 1, false);
        x.mend(0, 0);
        x.ground(16, 18, 0, 2);
        x.mend(0, 0);
        x.pass(9);
        Due.is("a linesman in the trench: 3 + 3 + 3", x.ofDesk(1, 4), 1);
        x.pass(14);
        Due.is("the one ahead of him goes on", x.ofDesk(1, 4), 1);
        x.pass(1);
        Due.is("9 + 6 + 9", x.ofDesk(1, 4), 2);
    }

    /** "DESKS: at most 6, numbered from 0, each at a CELL (two may be at one)" */
    private static void sixDesks() {
        Fieldwire x = new Fieldwire();
        Due.noIndex("none is there", x, () -> x.ofDesk(0, 0));
        for (int number = 0; number < 6; number++) {
            Due.is("desk " + number, x.desk(63, 4, 9, 9, true), number);
            Due.is("desks", x.field(1), number + 1);
            Due.is("desks at 63", x.ofCell(63, 5), number + 1);
            int next = number + 1;
            Due.noIndex("the one behind " + number, x, () -> x.ofDesk(next, 0));
        }
        Due.noState("a seventh one", x, () -> x.desk(0, 1, 0, 0, false));
        Due.is("none is at 0", x.ofCell(0, 5), 0);
    }

    /** Told are 9 at most; those that come to a DESK are more. */
    private static void menAboveNine() {
        Fieldwire x = new Fieldwire();
        x.desk(20, 1, 1, 1, false);
        x.desk(20, 1, 9, 9, false);
        x.wire(0, 1, false);
        x.mend(0, 0);
        x.shell(20);
        x.pass(4);
        Due.is("the linesman was at the CELL", x.field(16), 1);
        x.mend(1, 0);
        x.pass(14);
        Due.is("he has mended it", x.ofWire(0, 3), 0);
        Due.is("a linesman of the other one", x.ofDesk(0, 4), 1);
        x.shell(20);
        Made.report(x, 0, 1, 1);
        x.pass(2);
        Due.is("a tenth runner", x.ofDesk(1, 3), 10);
        Due.is("isSound()", x.isSound(), true);

        Fieldwire y = Made.desks(0);
        y.desk(0, 1, 0, 1, false);
        y.desk(0, 1, 0, 9, false);
        y.wire(1, 2, false);
        y.mend(1, 0);
        y.pass(4);
        Due.is("a tenth linesman", y.ofDesk(2, 4), 10);
        Due.is("he can go back", y.mend(2, 0), 9);
    }

    /** "WIRES: at most 10, numbered from 0, each between two DESKS" (some may be between the same ones) */
    private static void tenWires() {
        Fieldwire x = Made.desks(0, 2);
        Due.noIndex("none is there", x, () -> x.ofWire(0, 0));
        for (int number = 0; number < 10; number++) {
            Due.is("wire " + number, x.wire(number % 2, 1 - number % 2, number >= 5), number);
            Due.is("wires", x.field(2), number + 1);
            Due.is("wires through 1", x.ofCell(1, 3), number + 1);
            int next = number + 1;
            Due.noIndex("the one behind " + number, x, () -> x.ofWire(next, 0));
        }
        Due.noState("an eleventh one", x, () -> x.wire(0, 1, false));
        Due.is("the plain ones break", x.shell(1), 5);
        Due.is("broken at 1", x.ofCell(1, 4), 5);
        Due.is("the others do", x.shell(1), 5);
        Due.is("broken at 1", x.ofCell(1, 4), 10);
        Due.is("all are broken", x.shell(1), 0);
        Due.is("all die", x.move(0, 8), 10);
        Due.is("none through 1", x.ofCell(1, 3), 0);
        Due.is("none broken at 1", x.ofCell(1, 4), 0);
        Due.noState("dead ones count among the ten", x, () -> x.wire(0, 1, false));
    }

    /** A WIRE of one CELL, if both DESKS are at it, and one of eight, all of which can be BROKEN. */
    private static void shortestAndLongestWire() {
        Fieldwire x = Made.desks(9, 9);
        x.wire(0, 1, true);
        Due.is("one cell", x.ofWire(0, 2), 1);
        Due.is("buried", x.ofWire(0, 4), 1);
        Due.is("the first shell", x.shell(9), 0);
        Due.is("buried no more", x.ofWire(0, 4), 0);
        Due.is("whole", x.route(0, 1), 1);
        Due.is("the second shell", x.shell(9), 1);
        Due.is("broken", x.ofWire(0, 3), 1);
        Due.is("not whole", x.route(0, 1), -1);

        Fieldwire y = Made.desks(0, 63);
        y.wire(0, 1, true);
        Due.is("eight cells", y.ofWire(0, 2), 8);
        for (int k = 0; k < 8; k++) {
            Due.is("uncovered", y.shell(k * 9), 0);
            Due.is("buried", y.ofWire(0, 4), 7 - k);
        }
        for (int k = 0; k < 8; k++) {
            Due.is("broken by that", y.shell(k * 9), 1);
            Due.is("broken", y.ofWire(0, 3), k + 1);
        }
    }

    /** "A WIRE is DEAD for good, if a DESK at an end of it has moved" */
    private static void deadForGood() {
        for (int mover = 0; mover < 3; mover++) {
            Fieldwire x = Made.desks(0, 2, 40);
            x.wire(0, 1, false);
            int desk = mover;
            int dead = mover == 2 ? 0 : 1;
            Due.is("move(" + mover + ", 50)", x.move(mover, 50), dead);
            Due.is("dead", x.ofWire(0, 5), dead);
            Due.is("move back", x.move(mover, Made.desks(0, 2, 40).ofDesk(desk, 0)), 0);
            Due.is("dead for good", x.ofWire(0, 5), dead);
            Due.is("route(0, 1)", x.route(0, 1), dead == 1 ? -1 : 1);
            Due.is("its cells are as they were", x.ofWire(0, 2), 3);
            x.wire(0, 1, false);
            Due.is("a new one is not dead", x.route(0, 1), 1);
        }
    }

    /** "of each WIRE through it that is not DEAD, plain ones are BROKEN there": at both ends too, not beside. */
    private static void shellsOnPlainWires() {
        for (int cell = 0; cell < 64; cell++) {
            Fieldwire x = Made.desks(9, 12);
            x.wire(0, 1, false);
            int due = cell >= 9 && cell <= 12 ? 1 : 0;
            Due.is("wires through " + cell, x.ofCell(cell, 3), due);
            Due.is("shell(" + cell + ")", x.shell(cell), due);
            Due.is("broken at " + cell, x.ofCell(cell, 4), due);
            Due.is("broken ones", x.ofWire(0, 3), due);
            Due.is("route", x.route(0, 1), due == 1 ? -1 : 1);
            Due.is("shell(" + cell + ") once more", x.shell(cell), 0);
            Due.is("broken ones", x.ofWire(0, 3), due);
        }
    }

    /** "BURIED ones become plain there alone (the next SHELL there breaks them)" */
    private static void shellsOnBuriedWires() {
        Fieldwire x = Made.desks(9, 12);
        x.wire(0, 1, true);
        Due.is("all are buried", x.ofWire(0, 4), 4);
        Due.is("the first shell", x.shell(10), 0);
        Due.is("plain there alone", x.ofWire(0, 4), 3);
        Due.is("not broken", x.ofCell(10, 4), 0);
        Due.is("the first shell at the next one", x.shell(11), 0);
        Due.is("two are buried", x.ofWire(0, 4), 2);
        Due.is("the second shell", x.shell(10), 1);
        Due.is("broken there", x.ofCell(10, 4), 1);
        Due.is("not there", x.ofCell(11, 4), 0);
        Due.is("two are buried yet", x.ofWire(0, 4), 2);
        x.move(1, 13);
        Due.is("a dead one", x.shell(9), 0);
        Due.is("is not uncovered", x.ofWire(0, 4), 2);
        Due.is("nor broken", x.ofWire(0, 3), 1);
    }

    /** "RUNNERS and LINESMEN under way that are at the CELL are lost": where a LINESMAN is, minute by minute. */
    private static void shellsOnLinesmen() {
        for (int minute = 0; minute <= 12; minute++) {
            for (int cell = 0; cell <= 3; cell++) {
                Fieldwire x = Made.desks(8);
                x.desk(0, 1, 0, 1, false);
                x.desk(2, 1, 0, 0, false);
                x.wire(1, 2, false);
                x.mend(1, 0);
                Made.pass(x, minute);
                x.shell(cell);
                int at = minute < 4 ? 0 : minute < 8 ? 1 : minute < 12 ? 2 : -1;
                String told = "a linesman at minute " + minute + ", a shell at " + cell;
                Due.is(told + ": lost", x.field(16), at == cell ? 1 : 0);
                Due.is(told + ": under way", x.field(14), at == cell || at == -1 ? 0 : 1);
                Due.is(told + ": there", x.ofDesk(2, 4), at == -1 ? 1 : 0);
                Due.is(told + ": isSound()", x.isSound(), true);
            }
        }
    }

    /** "He is at each CELL from the MINUTE in which he has gone along the one ahead of it, to that .." */
    private static void shellsOnRunners() {
        for (int minute = 1; minute <= 11; minute++) {
            for (int cell = 16; cell <= 19; cell++) {
                Fieldwire x = new Fieldwire();
                x.ground(17, 17, 0, 1);
                x.desk(16, 1, 1, 0, false);
                x.desk(18, 1, 0, 0, false);
                Made.report(x, 0, 1, 1);
                Made.pass(x, minute);
                x.shell(cell);
                // 6 minutes through the wood, then 4 at his goal's cell
                int at = minute < 7 ? 17 : minute < 11 ? 18 : -1;
                String told = "a runner at minute " + minute + ", a shell at " + cell;
                Due.is(told + ": lost", x.field(15), at == cell ? 1 : 0);
                Due.is(told + ": his message", x.ofMessage(0, 8), at == cell ? 3 : at == -1 ? 2 : 1);
                Due.is(told + ": left", x.ofMessage(0, 11), at == cell ? 0 : 11 - minute);
                Due.is(told + ": there", x.ofDesk(1, 3), at == -1 ? 1 : 0);
                Due.is(told + ": isSound()", x.isSound(), true);
            }
        }
        // "at the one where he starts he is not any more, also if it is his goal's"
        Fieldwire y = new Fieldwire();
        y.desk(20, 1, 1, 0, false);
        y.desk(20, 1, 0, 0, false);
        y.shell(20);
        Made.report(y, 0, 1, 99);
        y.pass(1);
        Due.is("1 minute, if it is the same cell", y.ofMessage(0, 11), 1);
        Due.is("by runner", y.ofMessage(0, 10), 3);
        y.shell(20);
        Due.is("he is at no cell", y.ofMessage(0, 8), 1);
        y.pass(1);
        Due.is("he came", y.ofMessage(0, 8), 2);
    }

    /** One SHELL on WIRES, LINESMEN and RUNNERS at one CELL. */
    private static void shellOnAllAtACell() {
        Fieldwire x = new Fieldwire();
        x.ground(17, 17, 0, 1);
        x.desk(16, 1, 2, 9, false);
        x.desk(18, 1, 0, 0, false);
        x.desk(19, 1, 0, 0, false);
        Made.report(x, 0, 1, 1);
        Made.report(x, 0, 2, 1);
        x.pass(1);
        x.wire(0, 1, false);
        for (int left = 8; left >= 0; left--) {
            Due.is("mend(0, 0)", x.mend(0, 0), left);
        }
        Due.is("nine on it", x.ofWire(0, 7), 9);
        Due.is("nine under way", x.field(14), 9);
        x.pass(4);
        Due.is("one wire", x.shell(17), 1);
        Due.is("two runners", x.field(15), 2);
        Due.is("nine linesmen", x.field(16), 9);
        Due.is("none is under way", x.field(14), 0);
        Due.is("two messages", x.field(7), 2);
        Due.is("smoke", x.ofCell(17, 2), 5);
        Due.is("isSound()", x.isSound(), true);
    }

    /** "SMOKE lies there for 5 MINUTES at least" */
    private static void smoke() {
        Fieldwire x = new Fieldwire();
        for (int gone = 0; gone <= 6; gone++) {
            Fieldwire y = new Fieldwire();
            y.shell(63);
            Made.pass(y, gone);
            Due.is("smoke after " + gone, y.ofCell(63, 2), Math.max(0, 5 - gone));
            y.shell(63);
            Due.is("5 again", y.ofCell(63, 2), 5);
            Due.is("not beside it", y.ofCell(62, 2), 0);
        }
        for (int cell = 0; cell < 64; cell++) {
            x.shell(cell);
            x.shell(cell);
            Due.is("not twice 5", x.ofCell(cell, 2), 5);
        }
        for (int left = 4; left >= -1; left--) {
            x.pass(1);
            for (int cell = 0; cell < 64; cell++) {
                Due.is("smoke at " + cell, x.ofCell(cell, 2), Math.max(0, left));
            }
        }
    }

    /** "if it is BROKEN as he has gone along it, he stands there for 10 MINUTES more .. and it is not BROKEN any more" */
    private static void linesmanStandsTenMinutes() {
        for (int broken = 0; broken <= 2; broken++) {
            Fieldwire x = Made.desks(8);
            x.desk(0, 1, 0, 1, false);
            x.desk(2, 1, 0, 0, false);
            x.wire(1, 2, false);
            x.shell(broken);
            x.mend(1, 0);
            int mended = 4 * broken + 14;
            Made.pass(x, mended - 1);
            Due.is("broken one minute ahead", x.ofCell(broken, 4), 1);
            x.pass(1);
            Due.is("mended", x.ofCell(broken, 4), 0);
            Due.is("whole", x.route(1, 2), 2);
            Due.is("on his way, if there is more", x.field(14), broken == 2 ? 0 : 1);
            Made.pass(x, Math.max(0, 21 - mended));
            Due.is("one minute ahead of the end", x.ofDesk(2, 4), broken == 2 ? 1 : 0);
            Made.pass(x, 1);
            Due.is("there at 22", x.ofDesk(2, 4), 1);
        }
        for (int minute = 4; minute <= 18; minute++) {
            Fieldwire y = Made.desks(8);
            y.desk(0, 1, 0, 1, false);
            y.desk(2, 1, 0, 0, false);
            y.wire(1, 2, false);
            y.shell(1);
            y.mend(1, 0);
            Made.pass(y, minute);
            Due.is("a shell at 1 at " + minute, y.shell(1), minute == 18 ? 1 : 0);
            Due.is("he is lost there at " + minute, y.field(16), minute == 18 ? 0 : 1);
            Made.pass(y, 30);
            Due.is("and nobody mends it", y.ofWire(0, 3), 1);
        }
    }

    /** All CELLS BROKEN, from each end. */
    private static void linesmanMendsAllCells() {
        for (int from = 0; from <= 1; from++) {
            Fieldwire x = new Fieldwire();
            x.desk(0, 1, 0, 1, false);
            x.desk(2, 1, 0, 1, false);
            x.wire(0, 1, false);
            for (int cell = 0; cell <= 2; cell++) {
                x.shell(cell);
            }
            x.mend(from, 0);
            int[] due = {3, 2, 1, 0};
            for (int k = 0; k < 3; k++) {
                x.pass(13);
                Due.is("broken yet", x.ofWire(0, 3), due[k]);
                x.pass(1);
                Due.is("broken", x.ofWire(0, 3), due[k + 1]);
                int cell = from == 0 ? k : 2 - k;
                Due.is("mended at " + cell, x.ofCell(cell, 4), 0);
            }
            Due.is("he is there", x.ofDesk(1 - from, 4), 2);
            Due.is("none where he came from", x.ofDesk(from, 4), 0);
        }
    }

    /** "(whatever others do)" */
    private static void linesmenWhateverOthersDo() {
        Fieldwire x = new Fieldwire();
        x.desk(0, 1, 0, 4, false);
        x.desk(2, 1, 0, 0, false);
        x.wire(0, 1, false);
        x.shell(1);
        int[] sent = {0, 1, 9, 10};
        int[] there = {22, 23, 31, 22};
        int[] due = new int[33];
        for (int k = 0; k < sent.length; k++) {
            for (int minute = there[k]; minute < due.length; minute++) {
                due[minute]++;
            }
        }
        for (int minute = 0; minute < due.length; minute++) {
            for (int at : sent) {
                if (at == minute) {
                    x.mend(0, 0);
                }
            }
            Due.is("there at " + minute, x.ofDesk(1, 4), due[minute]);
            Due.is("broken at " + minute, x.ofWire(0, 3), minute < 18 ? 1 : 0);
            x.pass(1);
        }
    }

    /** "(What is BROKEN behind him stays so.)", and what is BROKEN ahead of him he mends. */
    private static void brokenBehindHimStays() {
        for (int cell = 0; cell <= 2; cell += 2) {
            Fieldwire x = new Fieldwire();
            x.desk(0, 1, 0, 1, false);
            x.desk(2, 1, 0, 0, false);
            x.wire(0, 1, false);
            x.mend(0, 0);
            x.pass(4);
            x.shell(cell);
            x.pass(cell == 0 ? 8 : 18);
            Due.is("he is there", x.ofDesk(1, 4), 1);
            Due.is("broken", x.ofWire(0, 3), cell == 0 ? 1 : 0);
        }
    }

    /** "He goes on, also if the WIRE is DEAD by then", to "the DESK at that end, wherever that is by then" */
    private static void linesmanOnADeadWire() {
        for (int mover = 0; mover <= 1; mover++) {
            Fieldwire x = new Fieldwire();
            x.desk(0, 1, 0, 1, false);
            x.desk(2, 1, 0, 0, false);
            x.wire(0, 1, false);
            x.shell(1);
            x.mend(0, 0);
            x.move(mover, 63);
            Due.is("on it", x.ofWire(0, 7), 1);
            x.pass(17);
            Due.is("broken", x.ofWire(0, 3), 1);
            x.pass(1);
            Due.is("mended", x.ofWire(0, 3), 0);
            Due.is("dead for good", x.ofWire(0, 5), 1);
            x.pass(3);
            Due.is("on it yet", x.ofWire(0, 7), 1);
            x.shell(63);
            x.pass(1);
            Due.is("a linesman of the desk at that end", x.ofDesk(1, 4), 1);
            Due.is("on it no more", x.ofWire(0, 7), 0);
        }
    }

    /** "Throws IllegalStateException if the WIRE is DEAD, the DESK is at no end of it, or has no LINESMAN" */
    private static void lastLinesman() {
        Fieldwire x = new Fieldwire();
        x.desk(0, 1, 0, 1, false);
        x.desk(2, 1, 0, 0, false);
        x.desk(4, 1, 0, 9, false);
        x.wire(0, 1, false);
        Due.noState("at no end of it", x, () -> x.mend(2, 0));
        Due.noState("has none at first", x, () -> x.mend(1, 0));
        Due.is("the last one goes along a whole wire too", x.mend(0, 0), 0);
        Due.noState("none is left", x, () -> x.mend(0, 0));
        x.pass(11);
        Due.noState("he is not there yet", x, () -> x.mend(1, 0));
        x.pass(1);
        Due.is("from the other end", x.mend(1, 0), 0);
        x.pass(12);
        x.move(1, 3);
        Due.noState("dead", x, () -> x.mend(0, 0));
        Due.is("he is there", x.ofDesk(0, 4), 1);
    }
}
