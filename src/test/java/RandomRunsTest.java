/** Runs of wild calls, good and wrong ones, on the program and on the Model, with the digests behind each call. */
public final class RandomRunsTest {
    private static final int RUNS = 500;
    private static final int CALLS = 220;
    private static final String[] TOLD = {"write", "write", "write", "write", "pass", "pass", "pass", "pass", "pass",
        "shell", "shell", "mend", "mend", "move", "birds", "fly", "fly", "turn", "capture", "post", "jam", "state",
        "ground", "wire", "call"};
    private static final String[] ASKED = {"ofCell", "course", "sees", "ofDesk", "ofBirds", "ofWire", "ofMessage",
        "belief", "diary", "diary", "right", "field", "route", "tell", "tell", "would", "delay", "best", "heard",
        "weak", "isSound", "desk"};

    public static void main(String[] args) {
        for (int run = 0; run < RUNS; run++) {
            Pair both = new Pair("RandomRunsTest", run * 7919L + 17);
            begin(both, run);
            for (int k = 0; k < CALLS; k++) {
                boolean isAsked = both.upTo(3) == 0;
                both.call(isAsked ? ASKED[both.upTo(ASKED.length)] : TOLD[both.upTo(TOLD.length)]);
                both.compare();
            }
        }
        if (Pair.throwsSeen < 1000) {
            System.out.println("RandomRunsTest: hardly any wrong call was made: " + Pair.throwsSeen);
            System.exit(1);
        }
        System.out.println("RandomRunsTest: " + RUNS + " runs are as the model's, with " + Pair.throwsSeen
                + " exceptions");
    }

    private static void begin(Pair both, int run) {
        if (run % 3 != 0) {
            for (int k = 0; k < 6; k++) {
                int from = both.upTo(60);
                both.call("ground", from, from + both.upTo(4), both.upTo(4), both.upTo(4));
            }
        }
        // some runs are for the air alone, so that batteries run down
        boolean isOnAir = run % 5 == 1;
        int desks = 2 + both.upTo(5);
        for (int k = 0; k < desks; k++) {
            both.call("desk", both.cell(), 1 + both.upTo(2), both.upTo(10), both.upTo(10),
                    isOnAir || both.upTo(2) == 0);
        }
        int wires = isOnAir ? 0 : both.upTo(10);
        for (int k = 0; k < wires; k++) {
            both.call("wire", both.upTo(desks), both.upTo(desks), both.upTo(4) == 0);
        }
        both.compare();
    }
}
