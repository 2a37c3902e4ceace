/** Objects to begin with. */
final class Made {
    /** Six CELLS of which none is beside another one: in woods no two of them SEE each other. */
    static final int[] FAR = {0, 3, 6, 24, 27, 30};

    private Made() {
    }

    /** DESKS with one CORD each, without men or a SET. */
    static Fieldwire desks(int... cells) {
        Fieldwire x = new Fieldwire();
        for (int cell : cells) {
            x.desk(cell, 1, 0, 0, false);
        }
        return x;
    }

    /** The same in woods: who is not beside another one does not SEE him. */
    static Fieldwire inWoods(int... cells) {
        Fieldwire x = desks(cells);
        x.ground(0, 63, 0, 1);
        return x;
    }

    /** So many of the CELLS of FAR, in woods. */
    static Fieldwire far(int many) {
        return inWoods(java.util.Arrays.copyOf(FAR, many));
    }

    /** A message of so many WORDS, a plain REPORT in plain words. */
    static int report(Fieldwire x, int from, int to, int words) {
        return x.write(from, to, 2, words, 0, false, 0);
    }

    static int order(Fieldwire x, int from, int to, int value) {
        return x.write(from, to, 2, 1, 0, true, value);
    }

    /** Lets any number of MINUTES go by. */
    static void pass(Fieldwire x, int minutes) {
        for (int left = minutes; left > 0; left -= 240) {
            x.pass(Math.min(left, 240));
        }
    }
}
