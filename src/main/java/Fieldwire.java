import java.util.ArrayList;

/** How an army hears and is heard: desks, wires, messages and minutes on 8 by 8 cells. */
public final class Fieldwire {
    private static final int NONE = -1;
    private static final int SIDE = 8;
    private static final int CELLS = SIDE * SIDE;
    private static final int WATER = 3;
    private static final int MOST_DESKS = 6;
    private static final int MOST_WIRES = 10;
    private static final int MOST_MESSAGES = 24;
    private static final int MOST_MEN = 9;
    private static final int MOST_BIRDS = 9;
    private static final int MOST_VALUE = 99;
    private static final int BOOKS = 9;
    private static final int FULL_BATTERY = 60;
    private static final int LAMP_REACH = 5;
    private static final int POST_REACH = 2;
    private static final int SMOKE_MINUTES = 5;
    private static final int REPAIR_MINUTES = 10;
    private static final int LONGEST_TELLING = 240;
    private static final int LAST_MINUTE = 2880;

    private final Ground ground = new Ground();
    private final Net net = new Net();
    private final Foe foe = new Foe();
    private final Traffic traffic = new Traffic(ground, net, foe);
    private int minute = 0;
    private int refused = 0;
    private int runnersTold = 0;
    private int linesmenTold = 0;

    public Fieldwire() {
    }

    // ---- ground, desks, wires

    public int ground(int from, int to, int height, int sort)
            throws IndexOutOfBoundsException, IllegalArgumentException {
        checkCell(from);
        checkCell(to);
        if (to < from) {
            throw new IllegalArgumentException("the last CELL is ahead of the first one");
        }
        checkBetween(height, 0, 9);
        checkBetween(sort, 0, WATER);
        return ground.tellCells(from, to, height, sort);
    }

    public int desk(int cell, int cords, int runners, int linesmen, boolean hasSet)
            throws IndexOutOfBoundsException, IllegalArgumentException, IllegalStateException {
        checkCell(cell);
        checkBetween(cords, 1, 4);
        checkBetween(runners, 0, MOST_MEN);
        checkBetween(linesmen, 0, MOST_MEN);
        int number = net.desks.size();
        if (number >= MOST_DESKS) {
            throw new IllegalStateException("there are 6 DESKS");
        }
        net.desks.add(new Desk(number, cell, cords, runners, linesmen, hasSet));
        runnersTold += runners;
        linesmenTold += linesmen;
        return number;
    }

    public int state(int desk, int state) throws IndexOutOfBoundsException, IllegalArgumentException {
        Desk told = deskOf(desk);
        checkBetween(state, -MOST_VALUE, MOST_VALUE);
        int before = told.state;
        told.state = state;
        return before;
    }

    public int wire(int one, int two, boolean isBuried)
            throws IndexOutOfBoundsException, IllegalArgumentException, IllegalStateException {
        Desk here = deskOf(one);
        Desk there = deskOf(two);
        checkDifferent(here, there);
        int number = net.wires.size();
        if (number >= MOST_WIRES) {
            throw new IllegalStateException("there are 10 WIRES");
        }
        net.wires.add(new Wire(number, here, there, ground.cellsFrom(here.cell, there.cell), isBuried));
        net.chart();
        return number;
    }

    public int shell(int cell) throws IndexOutOfBoundsException {
        checkCell(cell);
        int broken = net.breakWiresAt(cell);
        net.loseLinesmenAt(cell);
        traffic.loseRunnersAt(cell);
        ground.coverInSmoke(cell);
        return broken;
    }

    public int mend(int desk, int wire) throws IndexOutOfBoundsException, IllegalStateException {
        Desk from = deskOf(desk);
        Wire along = wireOf(wire);
        if (along.isDead || !along.endsAt(from) || from.linesmen <= 0) {
            throw new IllegalStateException("no LINESMAN can go there");
        }
        from.linesmen--;
        net.sendLinesman(along, from, ground);
        return from.linesmen;
    }

    public int move(int desk, int cell) throws IndexOutOfBoundsException, IllegalArgumentException {
        Desk mover = deskOf(desk);
        checkCell(cell);
        if (mover.cell == cell) {
            throw new IllegalArgumentException("the DESK is there already");
        }
        mover.cell = cell;
        mover.moves++;
        return net.killWiresAt(mover);
    }

    public int birds(int desk, int home, int many) throws IndexOutOfBoundsException, IllegalArgumentException {
        Desk keeper = deskOf(desk);
        Desk nest = deskOf(home);
        checkDifferent(keeper, nest);
        checkBetween(many, 0, MOST_BIRDS);
        int before = keeper.birdsFor(nest);
        keeper.bringBirds(nest, many);
        return before;
    }

    // ---- messages, codes, the foe, time

    public int write(int from, int to, int rank, int words, int code, boolean isOrder, int value)
            throws IndexOutOfBoundsException, IllegalArgumentException, IllegalStateException {
        Desk first = deskOf(from);
        Desk goal = deskOf(to);
        checkDifferent(first, goal);
        checkBetween(rank, 0, 2);
        checkWords(words, code);
        checkBetween(value, -MOST_VALUE, MOST_VALUE);
        if (traffic.isFull()) {
            throw new IllegalStateException("there are 24 messages");
        }
        int told = isOrder ? value : first.state;
        return traffic.add(new Letter(first, goal, rank, words, code, isOrder, told), minute);
    }

    public int fly(int message) throws IndexOutOfBoundsException, IllegalStateException {
        Message flown = messageOf(message);
        if (flown.standing != Standing.WAITS || isNight()) {
            throw new IllegalStateException("the message does not WAIT, or it is NIGHT");
        }
        if (flown.at.birdsFor(flown.letter.to) <= 0) {
            throw new IllegalStateException("there is no BIRD of its goal");
        }
        return traffic.goByBird(flown);
    }

    public int turn(int desk) throws IndexOutOfBoundsException {
        Desk reader = deskOf(desk);
        reader.book = reader.book >= BOOKS ? 1 : reader.book + 1;
        return reader.book;
    }

    public int capture(int book) throws IllegalArgumentException {
        checkBetween(book, 1, BOOKS);
        foe.captured = foe.captured | 1 << book;
        return foe.captured;
    }

    public int post(int cell) throws IndexOutOfBoundsException {
        if (cell != NONE) {
            checkCell(cell);
        }
        int before = foe.postCell;
        foe.postCell = cell;
        return before;
    }

    public int jam(int minutes) throws IllegalArgumentException {
        checkBetween(minutes, 0, LONGEST_TELLING);
        int before = foe.jamLeft;
        foe.jamLeft = minutes;
        return before;
    }

    public int pass(int minutes) throws IllegalArgumentException, IllegalStateException {
        checkBetween(minutes, 1, LONGEST_TELLING);
        if (minute + minutes > LAST_MINUTE) {
            throw new IllegalStateException("MINUTE would be above 2880");
        }
        for (int gone = 0; gone < minutes; gone++) {
            goThroughMinute();
        }
        return minute;
    }

    private void goThroughMinute() {
        minute++;
        ground.thinSmoke();
        foe.jamLeft = Math.max(0, foe.jamLeft - 1);
        traffic.useBatteries();
        net.letLinesmenGoOn();
        traffic.goOn(minute);
        for (int i = 0; i < net.desks.size(); i++) {
            traffic.sendFrom(net.desks.get(i));
        }
    }

    public int call() {
        refused++;
        return refused;
    }

    // ---- what is asked

    public int ofCell(int cell, int what) throws IndexOutOfBoundsException, IllegalArgumentException {
        checkCell(cell);
        checkBetween(what, 0, 5);
        switch (what) {
            case 0: return ground.heightAt(cell);
            case 1: return ground.sortAt(cell);
            case 2: return ground.smokeAt(cell);
            case 3: return net.countWiresAt(cell, false);
            case 4: return net.countWiresAt(cell, true);
            default: return net.countDesksAt(cell);
        }
    }

    public int course(int from, int to, int nth) throws IndexOutOfBoundsException, IllegalArgumentException {
        checkCell(from);
        checkCell(to);
        if (nth < 0) {
            throw new IllegalArgumentException("nth is below 0");
        }
        if (nth > Ground.stepsBetween(from, to)) {
            return NONE;
        }
        int cell = from;
        for (int step = 0; step < nth; step++) {
            cell = Ground.cellBehind(cell, to);
        }
        return cell;
    }

    public boolean sees(int one, int two) throws IndexOutOfBoundsException {
        checkCell(one);
        checkCell(two);
        return ground.isClearBetween(one, two);
    }

    public int ofDesk(int desk, int what) throws IndexOutOfBoundsException, IllegalArgumentException {
        Desk asked = deskOf(desk);
        checkBetween(what, 0, 13);
        switch (what) {
            case 0: return asked.cell;
            case 1: return asked.cords;
            case 2: return asked.cords - asked.cordsInUse;
            case 3: return asked.runners;
            case 4: return asked.linesmen;
            case 5: return asked.hasSet ? asked.battery : NONE;
            case 6: return asked.state;
            case 7: return asked.book;
            case 8: return traffic.countWaitingAt(asked);
            case 9: return asked.ordersDone;
            case 10: return asked.ordersLate;
            case 11: return traffic.countFor(asked, Standing.CAME);
            case 12: return traffic.countFor(asked, Standing.GARBLED);
            default: return asked.lastOrder;
        }
    }

    public int ofBirds(int desk, int home) throws IndexOutOfBoundsException {
        Desk keeper = deskOf(desk);
        Desk nest = deskOf(home);
        return keeper.birdsFor(nest);
    }

    public int ofWire(int wire, int what) throws IndexOutOfBoundsException, IllegalArgumentException {
        Wire asked = wireOf(wire);
        checkBetween(what, 0, 7);
        switch (what) {
            case 0: return asked.one.number;
            case 1: return asked.two.number;
            case 2: return asked.cells.length;
            case 3: return asked.breaks;
            case 4: return asked.countBuried();
            case 5: return asked.isDead ? 1 : 0;
            case 6: return asked.carried == null ? NONE : asked.carried.number;
            default: return net.countLinesmenOn(asked);
        }
    }

    public int ofMessage(int message, int what) throws IndexOutOfBoundsException, IllegalArgumentException {
        Message asked = messageOf(message);
        checkBetween(what, 0, 14);
        Letter letter = asked.letter;
        switch (what) {
            case 0: return letter.from.number;
            case 1: return letter.to.number;
            case 2: return letter.rank;
            case 3: return letter.words;
            case 4: return letter.code;
            case 5: return letter.isOrder ? 1 : 0;
            case 6: return letter.value;
            case 7: return asked.origin;
            case 8: return asked.standing.number;
            case 9: return asked.at.number;
            case 10: return asked.means.number;
            case 11: return asked.left;
            case 12: return asked.came;
            case 13: return foe.hasRead(asked) ? 2 : asked.isHeard ? 1 : 0;
            default: return asked.book;
        }
    }

    public int belief(int desk, int about, int what) throws IndexOutOfBoundsException, IllegalArgumentException {
        Desk believer = deskOf(desk);
        Desk other = deskOf(about);
        checkBetween(what, 0, 2);
        if (believer == other) {
            return what == 0 ? believer.state : what == 1 ? minute : 1;
        }
        Message report = believer.reportOf(other);
        switch (what) {
            case 0: return report == null ? 0 : report.letter.value;
            case 1: return report == null ? NONE : report.origin;
            default: return believer.isRightOf(other) ? 1 : 0;
        }
    }

    public int diary(int desk, int about, int minute) throws IndexOutOfBoundsException, IllegalArgumentException {
        Desk believer = deskOf(desk);
        Desk other = deskOf(about);
        checkDifferent(believer, other);
        checkBetween(minute, 0, this.minute);
        return traffic.reportBelievedAt(believer, other, minute);
    }

    public double right(int desk) throws IndexOutOfBoundsException {
        Desk believer = deskOf(desk);
        int others = net.desks.size() - 1;
        if (others <= 0) {
            return 1.0;
        }
        int rightOnes = 0;
        for (int i = 0; i < net.desks.size(); i++) {
            if (believer.isRightOf(net.desks.get(i))) {
                rightOnes++;
            }
        }
        return (double) rightOnes / (double) others;
    }

    public int field(int what) throws IllegalArgumentException {
        checkBetween(what, 0, 16);
        switch (what) {
            case 0: return minute;
            case 1: return net.desks.size();
            case 2: return net.wires.size();
            case 3: return traffic.messages.size();
            case 4: return traffic.countAll(Standing.WAITS);
            case 5: return traffic.countAll(Standing.UNDER_WAY);
            case 6: return traffic.countAll(Standing.CAME);
            case 7: return traffic.countAll(Standing.LOST);
            case 8: return traffic.countAll(Standing.GARBLED);
            case 9: return foe.jamLeft;
            case 10: return foe.postCell;
            case 11: return traffic.countHeard();
            case 12: return traffic.countRead();
            case 13: return isNight() ? 1 : 0;
            case 14: return net.linesmen.size();
            case 15: return traffic.runnersLost;
            default: return net.linesmenLost;
        }
    }

    public int route(int from, int to) throws IndexOutOfBoundsException {
        Desk here = deskOf(from);
        Desk goal = deskOf(to);
        Desk next = net.nextDesk(here, goal);
        return next == null ? NONE : next.number;
    }

    public String tell(int message) throws IndexOutOfBoundsException {
        Message told = messageOf(message);
        Letter letter = told.letter;
        StringBuilder line = new StringBuilder();
        line.append(told.number).append(": ");
        line.append(letter.isOrder ? "order " : "report ");
        line.append(letter.from.number).append(">").append(letter.to.number);
        line.append(told.standing.words);
        if (told.standing == Standing.WAITS) {
            line.append(told.at.number);
        }
        if (told.standing == Standing.UNDER_WAY) {
            line.append(told.means.word).append(" to ").append(told.next.number);
        }
        return line.toString();
    }

    // ---- what would be

    public int would(int message) throws IndexOutOfBoundsException {
        Message asked = messageOf(message);
        if (asked.standing != Standing.WAITS) {
            return -2;
        }
        return traffic.firstMeans(asked).number;
    }

    public int delay(int from, int to, int words, int code)
            throws IndexOutOfBoundsException, IllegalArgumentException {
        Desk here = deskOf(from);
        Desk goal = deskOf(to);
        checkDifferent(here, goal);
        checkWords(words, code);
        int wires = net.wiresBetween(here, goal);
        return wires == NONE ? NONE : wires * Letter.wireMinutes(words, code);
    }

    public int best(int desk) throws IndexOutOfBoundsException {
        Desk asked = deskOf(desk);
        int best = NONE;
        int most = 0;
        int nearest = 0;
        for (int cell = 0; cell < CELLS; cell++) {
            if (ground.sortAt(cell) == WATER) {
                continue;
            }
            int seen = countSeenFrom(cell, asked);
            int steps = Ground.stepsBetween(asked.cell, cell);
            if (best == NONE || seen > most || seen == most && steps < nearest) {
                best = cell;
                most = seen;
                nearest = steps;
            }
        }
        return best;
    }

    private int countSeenFrom(int cell, Desk asked) {
        int seen = 0;
        for (int i = 0; i < net.desks.size(); i++) {
            Desk other = net.desks.get(i);
            if (other != asked && ground.isInLampReach(cell, other.cell)) {
                seen++;
            }
        }
        return seen;
    }

    public int heard(int desk) throws IndexOutOfBoundsException {
        Desk sender = deskOf(desk);
        int set = 0;
        for (int i = 0; i < net.wires.size(); i++) {
            Wire wire = net.wires.get(i);
            if (wire.endsAt(sender) && wire.isWhole() && foe.hearsWire(wire)) {
                set = set | 1;
            }
        }
        if (foe.hearsLamp(sender, ground)) {
            set = set | 2;
        }
        return sender.hasSet ? set | 4 : set;
    }

    public int weak(int wire) throws IndexOutOfBoundsException {
        Wire asked = wireOf(wire);
        return net.pairsJoined(null) - net.pairsJoined(asked);
    }

    public boolean isSound() {
        return traffic.areWiresSound() && traffic.countUnderWay(Means.RADIO, null) <= 1
                && areBeliefsSound() && areBatteriesSound() && areMenSound();
    }

    private boolean areBeliefsSound() {
        for (int i = 0; i < net.desks.size(); i++) {
            for (int k = 0; k < net.desks.size(); k++) {
                if (!net.desks.get(i).isBeliefSound(net.desks.get(k))) {
                    return false;
                }
            }
        }
        return true;
    }

    private boolean areBatteriesSound() {
        for (int i = 0; i < net.desks.size(); i++) {
            if (net.desks.get(i).battery < 0) {
                return false;
            }
        }
        return true;
    }

    private boolean areMenSound() {
        int runners = traffic.runnersLost + traffic.countUnderWay(Means.RUNNER, null);
        int linesmen = net.linesmenLost + net.linesmen.size();
        for (int i = 0; i < net.desks.size(); i++) {
            runners += net.desks.get(i).runners;
            linesmen += net.desks.get(i).linesmen;
        }
        return runners == runnersTold && linesmen == linesmenTold;
    }

    public long digest() {
        long d = 58262;
        for (int what = 0; what <= 16; what++) {
            d = d * 31 + field(what);
        }
        for (int desk = 0; desk < net.desks.size(); desk++) {
            d = digestDesk(d, desk);
        }
        for (int wire = 0; wire < net.wires.size(); wire++) {
            for (int what = 0; what <= 7; what++) {
                d = d * 31 + ofWire(wire, what);
            }
            d = d * 31 + weak(wire);
        }
        for (int message = 0; message < traffic.messages.size(); message++) {
            for (int what = 0; what <= 14; what++) {
                d = d * 31 + ofMessage(message, what);
            }
            d = d * 31 + would(message);
        }
        return d * 31 + (isSound() ? 1 : 0);
    }

    private long digestDesk(long start, int desk) {
        long d = start;
        for (int what = 0; what <= 13; what++) {
            d = d * 31 + ofDesk(desk, what);
        }
        d = d * 31 + (long) (64.0 * right(desk));
        d = d * 31 + heard(desk);
        d = d * 31 + best(desk);
        for (int other = 0; other < net.desks.size(); other++) {
            d = d * 31 + route(desk, other);
            d = d * 31 + ofBirds(desk, other);
            for (int what = 0; what <= 2; what++) {
                d = d * 31 + belief(desk, other, what);
            }
        }
        return d;
    }

    // ---- what the calls test first

    private static void checkCell(int cell) {
        if (cell < 0 || cell >= CELLS) {
            throw new IndexOutOfBoundsException("no such CELL");
        }
    }

    private static void checkBetween(int number, int least, int most) {
        if (number < least || number > most) {
            throw new IllegalArgumentException("a number is out of its bounds");
        }
    }

    private static void checkWords(int words, int code) {
        checkBetween(words, 1, 99);
        checkBetween(code, 0, 1);
    }

    private static void checkDifferent(Desk one, Desk two) {
        if (one == two) {
            throw new IllegalArgumentException("both DESKS are the same");
        }
    }

    private Desk deskOf(int number) {
        if (number < 0 || number >= net.desks.size()) {
            throw new IndexOutOfBoundsException("no such DESK");
        }
        return net.desks.get(number);
    }

    private Wire wireOf(int number) {
        if (number < 0 || number >= net.wires.size()) {
            throw new IndexOutOfBoundsException("no such WIRE");
        }
        return net.wires.get(number);
    }

    private Message messageOf(int number) {
        if (number < 0 || number >= traffic.messages.size()) {
            throw new IndexOutOfBoundsException("no such message");
        }
        return traffic.messages.get(number);
    }

    private boolean isNight() {
        int hour = minute / 60 % 24;
        return hour < 6 || hour > 18;
    }

    /** By which MEANS a message goes. */
    private enum Means {
        WIRE(0, "wire"), LAMP(1, "lamp"), RADIO(2, "radio"), RUNNER(3, "runner"), BIRD(4, "bird"), NO(-1, "");

        final int number;
        final String word;

        Means(int number, String word) {
            this.number = number;
            this.word = word;
        }
    }

    /** How a message stands. */
    private enum Standing {
        WAITS(0, " waits at "), UNDER_WAY(1, " by "), CAME(2, " came"), LOST(3, " lost"), GARBLED(4, " garbled");

        final int number;
        final String words;

        Standing(int number, String words) {
            this.number = number;
            this.words = words;
        }
    }

    /** The CELLS. */
    private static final class Ground {
        private final int[] heights = new int[CELLS];
        private final int[] sorts = new int[CELLS];
        private final int[] smokes = new int[CELLS];

        int heightAt(int cell) {
            return cell >= 0 && cell < CELLS ? heights[cell] : 0;
        }

        int sortAt(int cell) {
            return cell >= 0 && cell < CELLS ? sorts[cell] : 0;
        }

        int smokeAt(int cell) {
            return cell >= 0 && cell < CELLS ? smokes[cell] : 0;
        }

        int tellCells(int from, int to, int height, int sort) {
            int changed = 0;
            for (int cell = 0; cell < CELLS; cell++) {
                boolean isTold = cell >= from && cell <= to;
                if (isTold && (heights[cell] != height || sorts[cell] != sort)) {
                    heights[cell] = height;
                    sorts[cell] = sort;
                    changed++;
                }
            }
            return changed;
        }

        void coverInSmoke(int cell) {
            if (cell >= 0 && cell < CELLS) {
                smokes[cell] = Math.max(smokes[cell], SMOKE_MINUTES);
            }
        }

        void thinSmoke() {
            for (int cell = 0; cell < CELLS; cell++) {
                smokes[cell] = Math.max(0, smokes[cell] - 1);
            }
        }

        int paceAt(int cell) {
            switch (sortAt(cell)) {
                case 1: return 6;
                case 2: return 3;
                case WATER: return 9;
                default: return 4;
            }
        }

        static int stepsBetween(int one, int two) {
            int rows = one / SIDE - two / SIDE;
            int columns = one % SIDE - two % SIDE;
            rows = rows < 0 ? -rows : rows;
            columns = columns < 0 ? -columns : columns;
            return rows > columns ? rows : columns;
        }

        /** The next CELL of the COURSE from one CELL to another one. */
        static int cellBehind(int cell, int to) {
            int row = cell / SIDE;
            int column = cell % SIDE;
            int toRow = to / SIDE;
            int toColumn = to % SIDE;
            row += row < toRow ? 1 : row > toRow ? -1 : 0;
            column += column < toColumn ? 1 : column > toColumn ? -1 : 0;
            return row * SIDE + column;
        }

        int[] cellsFrom(int from, int to) {
            int[] cells = new int[stepsBetween(from, to) + 1];
            int cell = from;
            for (int place = 0; place < cells.length; place++) {
                cells[place] = cell;
                cell = cellBehind(cell, to);
            }
            return cells;
        }

        boolean isInLampReach(int one, int two) {
            return stepsBetween(one, two) <= LAMP_REACH && isClearBetween(one, two);
        }

        /** Whether they SEE each other. */
        boolean isClearBetween(int one, int two) {
            if (smokeAt(one) > 0 || smokeAt(two) > 0) {
                return false;
            }
            int to = Math.max(one, two);
            int eye = Math.max(heightAt(one), heightAt(two));
            int cell = cellBehind(Math.min(one, two), to);
            for (int step = 1; step < SIDE && cell != to; step++) {
                if (smokeAt(cell) > 0 || sortAt(cell) == 1 || heightAt(cell) > eye) {
                    return false;
                }
                cell = cellBehind(cell, to);
            }
            return true;
        }
    }

    /** A DESK with what is there and what it BELIEVES. */
    private static final class Desk {
        final int number;
        final int cords;
        final boolean hasSet;
        int cell;
        int cordsInUse = 0;
        boolean isLampInUse = false;
        int runners;
        int linesmen;
        int battery = FULL_BATTERY;
        int state = 0;
        int book = 1;
        int ordersDone = 0;
        int ordersLate = 0;
        int lastOrder = NONE;
        int moves = 0;
        /** The smallest number of a DESK joined with it: for Net.pairsJoined alone. */
        int island = 0;
        private final int[] birds = new int[MOST_DESKS];
        /** How often the home had moved as its BIRDS were brought here. */
        private final int[] birdMoves = new int[MOST_DESKS];
        private final Message[] reports = new Message[MOST_DESKS];

        Desk(int number, int cell, int cords, int runners, int linesmen, boolean hasSet) {
            this.number = number;
            this.cell = cell;
            this.cords = cords;
            this.runners = runners;
            this.linesmen = linesmen;
            this.hasSet = hasSet;
        }

        boolean hasNumberIn(int length) {
            return number >= 0 && number < length;
        }

        int birdsFor(Desk home) {
            return home.hasNumberIn(birds.length) ? birds[home.number] : 0;
        }

        int birdMovesFor(Desk home) {
            return home.hasNumberIn(birdMoves.length) ? birdMoves[home.number] : 0;
        }

        void bringBirds(Desk home, int many) {
            if (home.hasNumberIn(birds.length) && home.hasNumberIn(birdMoves.length)) {
                birds[home.number] = many;
                birdMoves[home.number] = home.moves;
            }
        }

        void takeBird(Desk home) {
            if (home.hasNumberIn(birds.length)) {
                birds[home.number]--;
            }
        }

        /** The message by which it BELIEVES what it does of another DESK; null, if nothing. */
        Message reportOf(Desk other) {
            return other.hasNumberIn(reports.length) ? reports[other.number] : null;
        }

        boolean isRightOf(Desk other) {
            Message report = reportOf(other);
            return report != null && report.letter.value == other.state;
        }

        boolean isBeliefSound(Desk other) {
            Message report = reportOf(other);
            return report == null || report.standing == Standing.CAME
                    && report.letter.to == this && report.letter.from == other;
        }

        void learn(Message report) {
            int first = report.letter.from.number;
            if (first < 0 || first >= reports.length) {
                return;
            }
            Message known = reports[first];
            if (known == null || report.origin > known.origin) {
                reports[first] = report;
                report.isBelieved = true;
            }
        }

        void obey(Message order) {
            // an ORIGIN is 0 at least, so NONE is ahead of each
            if (order.origin > lastOrder) {
                state = order.letter.value;
                lastOrder = order.origin;
                ordersDone++;
            } else {
                ordersLate++;
            }
        }
    }

    /** A WIRE between two DESKS. */
    private static final class Wire {
        final int number;
        final Desk one;
        final Desk two;
        final int[] cells;
        private final boolean[] isBroken;
        private final boolean[] isBuried;
        int breaks = 0;
        boolean isDead = false;
        /** The message on it, or null. */
        Message carried = null;

        Wire(int number, Desk one, Desk two, int[] cells, boolean buried) {
            this.number = number;
            this.one = one;
            this.two = two;
            this.cells = cells;
            this.isBroken = new boolean[cells.length];
            this.isBuried = new boolean[cells.length];
            for (int place = 0; place < isBuried.length; place++) {
                isBuried[place] = buried;
            }
        }

        boolean isWhole() {
            return !isDead && breaks == 0;
        }

        boolean endsAt(Desk desk) {
            return one == desk || two == desk;
        }

        boolean isBetween(int desk, int other) {
            return one.number == desk && two.number == other || one.number == other && two.number == desk;
        }

        Desk otherEnd(Desk desk) {
            return desk == one ? two : one;
        }

        /** Its CELLS as one goes along it from one end. */
        int[] cellsFrom(Desk desk) {
            int[] order = new int[cells.length];
            for (int place = 0; place < order.length && place < cells.length; place++) {
                order[place] = cells[desk == one ? place : cells.length - 1 - place];
            }
            return order;
        }

        private int placeOf(int cell) {
            for (int place = 0; place < cells.length; place++) {
                if (cells[place] == cell) {
                    return place;
                }
            }
            return NONE;
        }

        boolean goesThrough(int cell) {
            return placeOf(cell) != NONE;
        }

        boolean isBrokenAt(int cell) {
            int place = placeOf(cell);
            return place >= 0 && place < isBroken.length && isBroken[place];
        }

        /** A SHELL on one of its CELLS; whether it is BROKEN there by that. */
        boolean isBrokenByShellAt(int cell) {
            int place = placeOf(cell);
            if (place < 0 || place >= isBroken.length || place >= isBuried.length) {
                return false;
            }
            if (isDead || isBroken[place]) {
                return false;
            }
            if (isBuried[place]) {
                isBuried[place] = false;
                return false;
            }
            isBroken[place] = true;
            breaks++;
            return true;
        }

        void repairAt(int cell) {
            int place = placeOf(cell);
            if (place >= 0 && place < isBroken.length && isBroken[place]) {
                isBroken[place] = false;
                breaks--;
            }
        }

        int countBuried() {
            int buried = 0;
            for (int place = 0; place < isBuried.length; place++) {
                buried += isBuried[place] ? 1 : 0;
            }
            return buried;
        }

        boolean isPlainNear(int cell) {
            for (int place = 0; place < cells.length && place < isBuried.length; place++) {
                if (!isBuried[place] && Ground.stepsBetween(cells[place], cell) <= POST_REACH) {
                    return true;
                }
            }
            return false;
        }
    }

    /** All DESKS and WIRES, the ways of WHOLE WIRES between them, and who mends them. */
    private static final class Net {
        /** More WIRES than any way has. */
        private static final int NO_WAY = 100;

        final ArrayList<Desk> desks = new ArrayList<Desk>();
        final ArrayList<Wire> wires = new ArrayList<Wire>();
        /** The LINESMEN under way, in the order in which they were sent. */
        final ArrayList<Walker> linesmen = new ArrayList<Walker>();
        int linesmenLost = 0;
        /** How many WIRES the shortest way has, by DESKS. */
        private final int[][] ways = new int[MOST_DESKS][MOST_DESKS];

        Net() {
            chart();
        }

        /** Finds all ways anew: to be called whenever a WIRE becomes WHOLE or is so no longer. */
        void chart() {
            for (int a = 0; a < MOST_DESKS; a++) {
                for (int b = 0; b < MOST_DESKS; b++) {
                    ways[a][b] = a == b ? 0 : wholeWire(a, b) == null ? NO_WAY : 1;
                }
            }
            for (int via = 0; via < MOST_DESKS; via++) {
                for (int a = 0; a < MOST_DESKS; a++) {
                    for (int b = 0; b < MOST_DESKS; b++) {
                        ways[a][b] = Math.min(ways[a][b], ways[a][via] + ways[via][b]);
                    }
                }
            }
        }

        /** The WHOLE WIRE with the smallest number between two DESKS; null without one. */
        Wire wholeWire(int desk, int other) {
            for (int i = 0; i < wires.size(); i++) {
                Wire wire = wires.get(i);
                if (wire.isBetween(desk, other) && wire.isWhole()) {
                    return wire;
                }
            }
            return null;
        }

        /** How many WIRES the way has; NONE without one. */
        int wiresBetween(Desk from, Desk to) {
            if (!from.hasNumberIn(MOST_DESKS) || !to.hasNumberIn(MOST_DESKS)) {
                return NONE;
            }
            int many = ways[from.number][to.number];
            return many >= NO_WAY ? NONE : many;
        }

        /** The next DESK of the way (itself, if both are the same); null without a way. */
        Desk nextDesk(Desk from, Desk to) {
            if (from == to) {
                return to;
            }
            int many = wiresBetween(from, to);
            for (int i = 0; i < desks.size() && many != NONE; i++) {
                Desk next = desks.get(i);
                if (wiresBetween(from, next) == 1 && wiresBetween(next, to) == many - 1) {
                    return next;
                }
            }
            return null;
        }

        /** How many pairs of DESKS have a way of WHOLE WIRES, if one of them (or null) is left out. */
        int pairsJoined(Wire without) {
            for (int i = 0; i < desks.size(); i++) {
                desks.get(i).island = i;
            }
            for (int round = 0; round < MOST_DESKS; round++) {
                joinIslands(without);
            }
            int pairs = 0;
            for (int i = 0; i < desks.size(); i++) {
                for (int k = 0; k < i; k++) {
                    pairs += desks.get(i).island == desks.get(k).island ? 1 : 0;
                }
            }
            return pairs;
        }

        private void joinIslands(Wire without) {
            for (int i = 0; i < wires.size(); i++) {
                Wire wire = wires.get(i);
                if (wire != without && wire.isWhole()) {
                    int island = Math.min(wire.one.island, wire.two.island);
                    wire.one.island = island;
                    wire.two.island = island;
                }
            }
        }

        int breakWiresAt(int cell) {
            int broken = 0;
            for (int i = 0; i < wires.size(); i++) {
                broken += wires.get(i).isBrokenByShellAt(cell) ? 1 : 0;
            }
            chart();
            return broken;
        }

        int killWiresAt(Desk desk) {
            int killed = 0;
            for (int i = 0; i < wires.size(); i++) {
                Wire wire = wires.get(i);
                if (wire.endsAt(desk) && !wire.isDead) {
                    wire.isDead = true;
                    killed++;
                }
            }
            chart();
            return killed;
        }

        void sendLinesman(Wire wire, Desk from, Ground ground) {
            linesmen.add(new Walker(ground, wire.cellsFrom(from), 0, wire, wire.otherEnd(from)));
        }

        void letLinesmenGoOn() {
            if (linesmen.isEmpty()) {
                return;
            }
            for (int i = 0; i < linesmen.size(); i++) {
                linesmen.get(i).goOn();
            }
            for (int i = linesmen.size() - 1; i >= 0; i--) {
                Walker man = linesmen.get(i);
                if (man.isThere()) {
                    man.goal.linesmen++;
                    linesmen.remove(i);
                }
            }
            chart();
        }

        void loseLinesmenAt(int cell) {
            for (int i = linesmen.size() - 1; i >= 0; i--) {
                if (linesmen.get(i).cellNow() == cell) {
                    linesmen.remove(i);
                    linesmenLost++;
                }
            }
        }

        int countLinesmenOn(Wire wire) {
            int many = 0;
            for (int i = 0; i < linesmen.size(); i++) {
                many += linesmen.get(i).wire == wire ? 1 : 0;
            }
            return many;
        }

        int countWiresAt(int cell, boolean onlyBroken) {
            int many = 0;
            for (int i = 0; i < wires.size(); i++) {
                Wire wire = wires.get(i);
                boolean isMeant = onlyBroken ? wire.isBrokenAt(cell) : wire.goesThrough(cell);
                many += isMeant && !wire.isDead ? 1 : 0;
            }
            return many;
        }

        int countDesksAt(int cell) {
            int many = 0;
            for (int i = 0; i < desks.size(); i++) {
                many += desks.get(i).cell == cell ? 1 : 0;
            }
            return many;
        }
    }

    /** A RUNNER or LINESMAN under way, with the PACE of each CELL as he was sent. */
    private static final class Walker {
        /** The WIRE that he mends; null for a RUNNER. */
        final Wire wire;
        /** The DESK to which he goes. */
        final Desk goal;
        private final int[] cells;
        private final int[] paces;
        private int place;
        private int paceLeft;
        private int repairLeft = 0;

        Walker(Ground ground, int[] cells, int firstPlace, Wire wire, Desk goal) {
            this.wire = wire;
            this.goal = goal;
            this.cells = cells;
            this.paces = new int[cells.length];
            for (int i = 0; i < cells.length && i < paces.length; i++) {
                paces[i] = ground.paceAt(cells[i]);
            }
            this.place = firstPlace;
            this.paceLeft = paceHere();
        }

        private int paceHere() {
            return place >= 0 && place < paces.length ? paces[place] : 0;
        }

        /** MINUTES of this CELL and of all that come behind it. */
        int minutesAhead() {
            int sum = 0;
            for (int i = 0; i < paces.length; i++) {
                sum += i >= place ? paces[i] : 0;
            }
            return sum;
        }

        /** The CELL where he is; NONE, if he is not on his COURSE. */
        int cellNow() {
            return place >= 0 && place < cells.length ? cells[place] : NONE;
        }

        int lastCell() {
            return cells.length > 0 ? cells[cells.length - 1] : NONE;
        }

        boolean isThere() {
            return place >= cells.length;
        }

        void goOn() {
            if (repairLeft > 0) {
                repairOn();
                return;
            }
            paceLeft--;
            if (paceLeft > 0) {
                return;
            }
            if (wire != null && wire.isBrokenAt(cellNow())) {
                repairLeft = REPAIR_MINUTES;
            } else {
                enterNextCell();
            }
        }

        private void repairOn() {
            repairLeft--;
            if (repairLeft == 0 && wire != null) {
                wire.repairAt(cellNow());
                enterNextCell();
            }
        }

        private void enterNextCell() {
            place++;
            paceLeft = paceHere();
        }
    }

    /** The foe: what he hears and has captured. */
    private static final class Foe {
        int postCell = NONE;
        int captured = 0;
        int jamLeft = 0;

        boolean hearsWire(Wire wire) {
            return postCell != NONE && wire.isPlainNear(postCell);
        }

        boolean hearsLamp(Desk sender, Ground ground) {
            return sender.cell / SIDE <= 1
                    || postCell != NONE && ground.isClearBetween(sender.cell, postCell);
        }

        boolean hasRead(Message message) {
            boolean isCaptured = (captured >> message.book & 1) == 1;
            return message.isHeard && (message.letter.code == 0 || isCaptured);
        }
    }

    /** What a message says; one that is written again says the same. */
    private static final class Letter {
        final Desk from;
        final Desk to;
        final int rank;
        final int words;
        final int code;
        final boolean isOrder;
        final int value;

        Letter(Desk from, Desk to, int rank, int words, int code, boolean isOrder, int value) {
            this.from = from;
            this.to = to;
            this.rank = rank;
            this.words = words;
            this.code = code;
            this.isOrder = isOrder;
            this.value = value;
        }

        static int wireMinutes(int words, int code) {
            int plain = words / 20 + 1;
            return code == 1 ? plain * 2 : plain;
        }
    }

    /** A message and how it stands. */
    private static final class Message {
        final int number;
        final Letter letter;
        final int origin;
        final int book;
        Standing standing = Standing.WAITS;
        Means means = Means.NO;
        /** The DESK where it WAITS, or that it left last. */
        Desk at;
        /** The DESK to which it goes, or went last. */
        Desk next;
        int left = 0;
        int came = NONE;
        boolean isHeard = false;
        /** Whether its goal BELIEVED it as it came. */
        boolean isBelieved = false;
        /** The WIRE that carries it, or null. */
        Wire wire = null;
        /** The RUNNER who carries it, or null. */
        Walker runner = null;
        /** How often its goal had moved as the BIRD that carries it was brought. */
        int birdMoves = 0;

        Message(int number, Letter letter, int origin, int book) {
            this.number = number;
            this.letter = letter;
            this.origin = origin;
            this.book = book;
            this.at = letter.from;
            this.next = letter.to;
        }

        boolean isUnderWayBy(Means by) {
            return standing == Standing.UNDER_WAY && means == by;
        }

        boolean waitsAt(Desk desk) {
            return standing == Standing.WAITS && at == desk;
        }

        boolean isSentAheadOf(Message other) {
            if (letter.rank != other.letter.rank) {
                return letter.rank < other.letter.rank;
            }
            if (origin != other.origin) {
                return origin < other.origin;
            }
            return number < other.number;
        }

        void setOff(Means by, Desk goal, int minutes) {
            standing = Standing.UNDER_WAY;
            means = by;
            next = goal;
            left = minutes;
        }

        void endTrip(Standing then) {
            standing = then;
            left = 0;
            wire = null;
            runner = null;
        }
    }

    /** All messages: how they are sent, go on and come. */
    private static final class Traffic {
        private final Ground ground;
        private final Net net;
        private final Foe foe;
        final ArrayList<Message> messages = new ArrayList<Message>();
        /** The same messages as a DESK sends them. */
        private final ArrayList<Message> inOrder = new ArrayList<Message>();
        /** The one message on the air, or null. */
        private Message onAir = null;
        int runnersLost = 0;

        Traffic(Ground ground, Net net, Foe foe) {
            this.ground = ground;
            this.net = net;
            this.foe = foe;
        }

        boolean isFull() {
            return messages.size() >= MOST_MESSAGES;
        }

        int add(Letter letter, int origin) {
            int book = letter.code == 1 ? letter.from.book : 0;
            Message written = new Message(messages.size(), letter, origin, book);
            messages.add(written);
            int place = 0;
            while (place < inOrder.size() && inOrder.get(place).isSentAheadOf(written)) {
                place++;
            }
            inOrder.add(place, written);
            return written.number;
        }

        // ---- by which MEANS

        Means firstMeans(Message message) {
            if (canGoByWire(message)) {
                return Means.WIRE;
            }
            if (canGoByLamp(message)) {
                return Means.LAMP;
            }
            if (canGoByRadio(message)) {
                return Means.RADIO;
            }
            return canGoByRunner(message) ? Means.RUNNER : Means.NO;
        }

        private boolean canGoByWire(Message message) {
            Desk here = message.at;
            Desk next = net.nextDesk(here, message.letter.to);
            if (next == null || here.cordsInUse >= here.cords) {
                return false;
            }
            Wire wire = net.wholeWire(here.number, next.number);
            return wire != null && wire.carried == null;
        }

        private boolean canGoByLamp(Message message) {
            Desk here = message.at;
            return !here.isLampInUse && ground.isInLampReach(here.cell, message.letter.to.cell);
        }

        private boolean canGoByRadio(Message message) {
            Desk here = message.at;
            return here.hasSet && message.letter.to.hasSet && message.letter.rank <= 1
                    && onAir == null && here.battery > 0 && foe.jamLeft == 0;
        }

        private boolean canGoByRunner(Message message) {
            Desk here = message.at;
            return here.runners > 0 && net.nextDesk(here, message.letter.to) == null;
        }

        // ---- sending

        void sendFrom(Desk desk) {
            for (int i = 0; i < inOrder.size(); i++) {
                Message message = inOrder.get(i);
                if (message.waitsAt(desk)) {
                    sendBy(firstMeans(message), message);
                }
            }
        }

        private void sendBy(Means means, Message message) {
            if (means == Means.WIRE) {
                goByWire(message);
            } else if (means == Means.LAMP) {
                goByLamp(message);
            } else if (means == Means.RADIO) {
                goByRadio(message);
            } else if (means == Means.RUNNER) {
                goByRunner(message);
            }
        }

        private void goByWire(Message message) {
            Desk here = message.at;
            Desk next = net.nextDesk(here, message.letter.to);
            Wire wire = next == null ? null : net.wholeWire(here.number, next.number);
            if (wire == null) {
                return;
            }
            message.setOff(Means.WIRE, next, Letter.wireMinutes(message.letter.words, message.letter.code));
            message.wire = wire;
            wire.carried = message;
            here.cordsInUse++;
            if (foe.hearsWire(wire)) {
                message.isHeard = true;
            }
        }

        private void goByLamp(Message message) {
            message.setOff(Means.LAMP, message.letter.to, message.letter.words / 8 + 1);
            message.at.isLampInUse = true;
            if (foe.hearsLamp(message.at, ground)) {
                message.isHeard = true;
            }
        }

        private void goByRadio(Message message) {
            message.setOff(Means.RADIO, message.letter.to, message.letter.words / 10 + 1);
            onAir = message;
            message.isHeard = true;
        }

        private void goByRunner(Message message) {
            Desk here = message.at;
            Desk goal = message.letter.to;
            Walker runner = new Walker(ground, ground.cellsFrom(here.cell, goal.cell), 1, null, goal);
            message.setOff(Means.RUNNER, goal, Math.max(1, runner.minutesAhead()));
            message.runner = runner;
            here.runners--;
        }

        /** Returns in how many MINUTES it is there. */
        int goByBird(Message message) {
            Desk here = message.at;
            Desk home = message.letter.to;
            message.setOff(Means.BIRD, home, Ground.stepsBetween(here.cell, home.cell) + 1);
            message.birdMoves = here.birdMovesFor(home);
            here.takeBird(home);
            return message.left;
        }

        // ---- under way

        void useBatteries() {
            for (int i = 0; i < net.desks.size(); i++) {
                Desk desk = net.desks.get(i);
                boolean isSending = onAir != null && onAir.at == desk;
                desk.battery = isSending ? Math.max(0, desk.battery - 1)
                        : Math.min(FULL_BATTERY, desk.battery + 1);
            }
        }

        void goOn(int minute) {
            for (int i = 0; i < messages.size(); i++) {
                Message message = messages.get(i);
                if (message.standing != Standing.UNDER_WAY) {
                    continue;
                }
                if (isKept(message)) {
                    endTrip(message, Standing.WAITS);
                    continue;
                }
                message.left--;
                if (message.left <= 0) {
                    arrive(message, minute);
                } else if (message.runner != null) {
                    message.runner.goOn();
                }
            }
        }

        private boolean isKept(Message message) {
            if (message.means == Means.WIRE) {
                return message.wire == null || !message.wire.isWhole();
            }
            if (message.means == Means.LAMP) {
                return !ground.isInLampReach(message.at.cell, message.letter.to.cell);
            }
            return message.means == Means.RADIO && (foe.jamLeft > 0 || message.at.battery <= 0);
        }

        private void arrive(Message message, int minute) {
            Walker runner = message.runner;
            Desk there = message.next;
            if (runner != null && runner.lastCell() != there.cell) {
                runnersLost++;
                endTrip(message, Standing.LOST);
                return;
            }
            if (runner != null) {
                there.runners++;
            }
            if (message.means == Means.BIRD && message.birdMoves != there.moves) {
                endTrip(message, Standing.LOST);
                return;
            }
            if (there != message.letter.to) {
                endTrip(message, Standing.WAITS);
                message.at = there;
                return;
            }
            come(message, minute);
        }

        private void come(Message message, int minute) {
            Letter letter = message.letter;
            message.came = minute;
            if (letter.code == 1 && message.book != letter.to.book) {
                endTrip(message, Standing.GARBLED);
                if (!isFull()) {
                    add(letter, message.origin);
                }
                return;
            }
            endTrip(message, Standing.CAME);
            if (letter.isOrder) {
                letter.to.obey(message);
            } else {
                letter.to.learn(message);
            }
        }

        /** Frees what it goes by. */
        private void endTrip(Message message, Standing then) {
            if (message.wire != null) {
                message.wire.carried = null;
                message.at.cordsInUse--;
            }
            if (message.means == Means.LAMP) {
                message.at.isLampInUse = false;
            }
            if (onAir == message) {
                onAir = null;
            }
            message.endTrip(then);
        }

        void loseRunnersAt(int cell) {
            for (int i = 0; i < messages.size(); i++) {
                Message message = messages.get(i);
                if (message.runner != null && message.runner.cellNow() == cell) {
                    runnersLost++;
                    endTrip(message, Standing.LOST);
                }
            }
        }

        // ---- what is asked

        int countAll(Standing standing) {
            int many = 0;
            for (int i = 0; i < messages.size(); i++) {
                many += messages.get(i).standing == standing ? 1 : 0;
            }
            return many;
        }

        int countWaitingAt(Desk desk) {
            int many = 0;
            for (int i = 0; i < messages.size(); i++) {
                many += messages.get(i).waitsAt(desk) ? 1 : 0;
            }
            return many;
        }

        /** Those for a goal that stand so. */
        int countFor(Desk goal, Standing standing) {
            int many = 0;
            for (int i = 0; i < messages.size(); i++) {
                Message message = messages.get(i);
                many += message.letter.to == goal && message.standing == standing ? 1 : 0;
            }
            return many;
        }

        int countHeard() {
            int many = 0;
            for (int i = 0; i < messages.size(); i++) {
                many += messages.get(i).isHeard ? 1 : 0;
            }
            return many;
        }

        int countRead() {
            int many = 0;
            for (int i = 0; i < messages.size(); i++) {
                many += foe.hasRead(messages.get(i)) ? 1 : 0;
            }
            return many;
        }

        /** Those under way by some MEANS from a DESK (null: from any). */
        int countUnderWay(Means means, Desk from) {
            int many = 0;
            for (int i = 0; i < messages.size(); i++) {
                Message message = messages.get(i);
                boolean isFromThere = from == null || message.at == from;
                many += isFromThere && message.isUnderWayBy(means) ? 1 : 0;
            }
            return many;
        }

        int reportBelievedAt(Desk desk, Desk about, int minute) {
            int number = NONE;
            int latest = NONE;
            for (int i = 0; i < messages.size(); i++) {
                Message message = messages.get(i);
                boolean isMeant = message.letter.to == desk && message.letter.from == about;
                boolean wasBelieved = message.isBelieved && message.came <= minute;
                // each that is BELIEVED is of a later ORIGIN than the one ahead of it
                if (isMeant && wasBelieved && message.origin > latest) {
                    number = message.number;
                    latest = message.origin;
                }
            }
            return number;
        }

        /** Whether no WIRE carries two messages, and no DESK sends more on WIRES than it has CORDS. */
        boolean areWiresSound() {
            for (int i = 0; i < net.wires.size(); i++) {
                if (countCarriedBy(net.wires.get(i)) > 1) {
                    return false;
                }
            }
            for (int i = 0; i < net.desks.size(); i++) {
                Desk desk = net.desks.get(i);
                if (countUnderWay(Means.WIRE, desk) > desk.cords) {
                    return false;
                }
            }
            return true;
        }

        private int countCarriedBy(Wire wire) {
            int many = 0;
            for (int i = 0; i < messages.size(); i++) {
                many += messages.get(i).wire == wire ? 1 : 0;
            }
            return many;
        }
    }
}
