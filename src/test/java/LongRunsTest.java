/**
 * Runs of just 512 calls, in which desks, wires, messages and minutes are many: on the program and on the Model, each
 * answer the same. Then the same calls once more on other objects: two at a time (no object knows of another one),
 * and without those that ask and those that are refused (these change nothing).
 */
public final class LongRunsTest {
    private static final int CALLS = 512;
    private static final int RUNS_OF_A_PLAN = 25;
    private static final String[] ASKED = {"ofCell", "course", "sees", "ofDesk", "ofDesk", "ofBirds", "ofWire",
        "ofWire", "ofMessage", "ofMessage", "ofMessage", "belief", "belief", "diary", "diary", "diary", "right",
        "field", "route", "tell", "tell", "would", "would", "delay", "best", "heard", "weak", "isSound", "digest",
        "digest"};
    /** What a plan tells most: each is a war of another kind. */
    private static final String[][] PLANS = {
        {"shell", "shell", "shell", "mend", "mend", "mend", "jam", "state"},
        {"jam", "shell", "post", "capture", "turn", "state"},
        {"shell", "move", "move", "state", "ground", "mend", "wire"},
        {"birds", "birds", "fly", "fly", "fly", "move"},
        {"turn", "turn", "capture", "post", "post", "state"},
        {"shell", "mend", "move", "birds", "fly", "turn", "capture", "post", "jam", "state", "ground", "call",
            "desk", "wire"}};
    private static final int WIRES = 0;
    private static final int AIR = 1;
    private static final int RUNNERS = 2;
    private static final int BIRDS = 3;

    /** What has been seen in all runs: field() of 0 to 16 at its most, and messages by each MEANS. */
    private static final int[] MOST = new int[17];
    private static final int[] BY = new int[6];
    private static int carriedOut = 0;
    private static int late = 0;
    private static int right = 0;

    public static void main(String[] args) {
        Pair last = null;
        for (int plan = 0; plan < PLANS.length; plan++) {
            for (int run = 0; run < RUNS_OF_A_PLAN; run++) {
                Pair both = new Pair("LongRunsTest", plan * 104729L + run * 7919L + 5);
                both.rightly = 200;
                oneRun(both, plan, run);
                lookAtTheEnd(both.model);
                if (last != null) {
                    again(last, both);
                }
                last = both;
            }
        }
        enough();
        System.out.println("LongRunsTest: " + PLANS.length * RUNS_OF_A_PLAN + " runs of " + CALLS
                + " calls are as the model's, and once more");
    }

    private static void oneRun(Pair both, int plan, int run) {
        int minutes = run % 3 == 0 ? 1 : run % 3 == 1 ? 6 : 24;
        begin(both, plan);
        while (both.names.size() < CALLS - 1) {
            // one after the other, so that some are under way at all times
            int written = both.model.field(3);
            boolean isLetter = written < 24 ? written * 20 < both.names.size() && both.upTo(2) == 0
                    : both.upTo(50) == 0;
            int dice = both.upTo(10);
            if (isLetter) {
                both.call("write", letter(both, plan));
            } else if (dice < 4) {
                both.call(ASKED[both.upTo(ASKED.length)]);
            } else if (dice < 7) {
                pass(both, minutes);
            } else {
                tell(both, PLANS[plan][both.upTo(PLANS[plan].length)]);
            }
            look(both.model);
        }
        both.call("digest");
        if (both.names.size() != CALLS) {
            both.fail("that were " + both.names.size() + " calls");
        }
    }

    private static void begin(Pair both, int plan) {
        boolean areWoods = plan == AIR || plan == RUNNERS || both.upTo(2) == 0;
        both.call("ground", 0, 63, 0, areWoods ? 1 : 0);
        for (int k = 0; k < 5; k++) {
            int from = both.upTo(60);
            both.call("ground", from, from + both.upTo(4), both.upTo(4), both.upTo(4));
        }
        for (int desk = 0; desk < 6; desk++) {
            both.call("desk", both.upTo(64), 1 + both.upTo(4), plan == RUNNERS ? 9 : both.upTo(3), 3 + both.upTo(7),
                    plan == AIR || both.upTo(3) == 0);
        }
        int wires = plan == AIR || plan == BIRDS ? 3 : plan == RUNNERS ? 6 : 10;
        for (int wire = 0; wire < wires; wire++) {
            int one = both.upTo(6);
            both.call("wire", one, (one + 1 + both.upTo(5)) % 6, both.upTo(4) == 0);
        }
        if (plan == BIRDS) {
            both.call("pass", 240);
            both.call("pass", 130);
        }
    }

    private static Object[] letter(Pair both, int plan) {
        // to and fro between two of them mostly, so that what comes meets what came
        int from = both.upTo(3) == 0 ? both.upTo(6) : both.upTo(2);
        int rank = plan == AIR ? both.upTo(2) : both.upTo(3);
        int to = both.upTo(3) > 0 && from < 2 ? 1 - from : (from + 1 + both.upTo(5)) % 6;
        return new Object[] {from, to, rank, 1 + both.upTo(99), both.upTo(2),
            both.upTo(2) == 0, both.value()};
    }

    private static void pass(Pair both, int minutes) {
        int left = 2880 - both.model.field(0);
        int many = 1 + both.upTo(2 * minutes);
        // now and then the one MINUTE too many
        both.call("pass", both.upTo(20) == 0 && left < 240 ? left + 1 : Math.max(1, Math.min(left, many)));
    }

    /** Told so that it meets something: shells fall where somebody may be, men are sent where something is broken. */
    private static void tell(Pair both, String name) {
        int wires = both.model.field(2);
        if (name.equals("shell") && both.upTo(5) > 0) {
            int from = both.model.ofDesk(both.upTo(6), 0);
            int to = both.model.ofDesk(both.upTo(6), 0);
            int nth = both.upTo(8);
            int cell = both.model.course(from, to, nth);
            both.call("shell", cell < 0 ? to : cell);
        } else if (name.equals("mend") && wires > 0 && both.upTo(5) > 0) {
            int wire = both.upTo(wires);
            for (int k = 0; k < wires && both.model.ofWire(wire, 3) == 0; k++) {
                wire = (wire + 1) % wires;
            }
            both.call("mend", both.model.ofWire(wire, both.upTo(2)), wire);
        } else if (name.equals("fly")) {
            fly(both);
        } else if (name.equals("move") && both.upTo(3) > 0) {
            both.call("state", both.upTo(6), both.value());
        } else if (name.equals("move")) {
            both.call("move", both.upTo(6), both.upTo(64));
        } else if (name.equals("wire")) {
            int one = both.upTo(6);
            both.call("wire", one, (one + 1 + both.upTo(5)) % 6, both.upTo(4) == 0);
        } else {
            both.call(name);
        }
    }

    /** Of what waits the first one, with a bird, or that bird is brought first. */
    private static void fly(Pair both) {
        int message = 0;
        while (message < both.model.field(3) - 1 && both.model.ofMessage(message, 8) != 0) {
            message++;
        }
        if (both.model.field(3) > 0 && both.model.ofMessage(message, 8) == 0) {
            int here = both.model.ofMessage(message, 9);
            int home = both.model.ofMessage(message, 1);
            if (both.model.ofBirds(here, home) == 0) {
                both.call("birds", here, home, 1 + both.upTo(3));
                return;
            }
        }
        both.call("fly", message);
    }

    private static void look(Model model) {
        for (int what = 0; what <= 16; what++) {
            MOST[what] = Math.max(MOST[what], model.field(what));
        }
    }

    private static void lookAtTheEnd(Model model) {
        for (int message = 0; message < model.field(3); message++) {
            BY[model.ofMessage(message, 10) + 1]++;
        }
        for (int desk = 0; desk < 6; desk++) {
            carriedOut += model.ofDesk(desk, 9);
            late += model.ofDesk(desk, 10);
            right += model.right(desk) > 0.0 ? 1 : 0;
        }
    }

    /** Runs in which nothing happens would prove nothing. */
    private static void enough() {
        int[] least = {2880, 6, 10, 24, 10, 5, 15, 3, 3, 100, 63, 15, 8, 1, 5, 5, 5};
        for (int what = 0; what <= 16; what++) {
            mustBe("field(" + what + ") at its most", MOST[what], least[what]);
        }
        for (int means = 0; means <= 4; means++) {
            mustBe("messages by " + means, BY[means + 1], 50);
        }
        mustBe("orders carried out", carriedOut, 100);
        mustBe("orders too late", late, 20);
        mustBe("desks that are right of another one", right, 20);
    }

    private static void mustBe(String told, int got, int least) {
        if (got < least) {
            System.out.println("LongRunsTest: " + told + ": " + got + ", that is below " + least);
            System.exit(1);
        }
    }

    /** Both runs once more, a call of each in turn, and one of them without what changes nothing. */
    private static void again(Pair one, Pair two) {
        Fieldwire first = new Fieldwire();
        Fieldwire second = new Fieldwire();
        Fieldwire shortened = new Fieldwire();
        for (int k = 0; k < CALLS; k++) {
            mustAnswer(one, k, one.again(k, first));
            mustAnswer(two, k, two.again(k, second));
            boolean isRefused = one.answers.get(k).toString().startsWith("throws ");
            if (!isRefused && !isAsked(one.names.get(k))) {
                mustAnswer(one, k, one.again(k, shortened));
            }
        }
        mustAnswer(one, CALLS - 1, one.again(CALLS - 1, shortened));
    }

    private static boolean isAsked(String name) {
        for (String asked : ASKED) {
            if (asked.equals(name)) {
                return true;
            }
        }
        return false;
    }

    private static void mustAnswer(Pair run, int k, Object got) {
        if (!run.answers.get(k).equals(got)) {
            run.fail("once more, call " + k + ", " + run.names.get(k) + ", answered " + got);
        }
    }
}
