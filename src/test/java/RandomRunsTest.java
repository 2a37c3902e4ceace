import java.lang.reflect.InvocationTargetException;
import java.lang.reflect.Method;
import java.util.ArrayList;
import java.util.Arrays;
import java.util.List;

/**
 * Long runs of calls, good and wrong ones, on the program and on the Model: each answer, each exception and the
 * digest behind each call have to be the same, and no exception may come from the Java machine or its library.
 */
public final class RandomRunsTest {
    private static final int RUNS = 500;
    private static final int CALLS = 220;
    private static final String[] TOLD = {"write", "write", "write", "write", "pass", "pass", "pass", "pass", "pass",
        "shell", "shell", "mend", "mend", "move", "birds", "fly", "fly", "turn", "capture", "post", "jam", "state",
        "ground", "wire", "call"};
    private static final String[] ASKED = {"ofCell", "course", "sees", "ofDesk", "ofBirds", "ofWire", "ofMessage",
        "belief", "diary", "diary", "right", "field", "route", "tell", "tell", "would", "delay", "best", "heard",
        "weak", "isSound", "desk"};

    private static long seed;
    private static Fieldwire program;
    private static Model model;
    private static List<String> calls;
    private static int around;
    private static long throwsSeen;

    public static void main(String[] args) throws Exception {
        for (int run = 0; run < RUNS; run++) {
            seed = run * 7919L + 17;
            program = new Fieldwire();
            model = new Model();
            calls = new ArrayList<>();
            around = upTo(64);
            begin(run);
            for (int k = 0; k < CALLS; k++) {
                String name = upTo(3) == 0 ? ASKED[upTo(ASKED.length)] : TOLD[upTo(TOLD.length)];
                callBoth(name, argumentsOf(method(Fieldwire.class, name)));
            }
        }
        if (throwsSeen < 1000) {
            fail("hardly any wrong call was made: " + throwsSeen);
        }
        System.out.println("RandomRunsTest: " + RUNS + " runs are as the model's, with " + throwsSeen + " exceptions");
    }

    private static void begin(int run) throws Exception {
        if (run % 3 != 0) {
            for (int k = 0; k < 6; k++) {
                int from = upTo(60);
                callBoth("ground", new Object[] {from, from + upTo(4), upTo(4), upTo(4)});
            }
        }
        // some runs are for the air alone, so that batteries run down
        boolean isOnAir = run % 5 == 1;
        int desks = 2 + upTo(5);
        for (int k = 0; k < desks; k++) {
            Object[] told = {cell(), 1 + upTo(2), upTo(10), upTo(10), isOnAir || upTo(2) == 0};
            callBoth("desk", told);
        }
        int wires = isOnAir ? 0 : upTo(10);
        for (int k = 0; k < wires; k++) {
            callBoth("wire", new Object[] {upTo(desks), upTo(desks), upTo(4) == 0});
        }
    }

    private static int upTo(int bound) {
        seed = seed * 6364136223846793005L + 1442695040888963407L;
        return (int) ((seed >>> 33) % bound);
    }

    /** A CELL, mostly near those of the other calls, so that things meet. */
    private static int cell() {
        if (upTo(40) == 0) {
            return upTo(2) == 0 ? -2 + upTo(2) : 64 + upTo(3);
        }
        if (upTo(3) > 0) {
            int row = Math.min(7, Math.max(0, around / 8 + upTo(5) - 2));
            int column = Math.min(7, Math.max(0, around % 8 + upTo(5) - 2));
            return row * 8 + column;
        }
        return upTo(64);
    }

    private static int number(int bound) {
        return upTo(30) == 0 ? -1 + upTo(2) * (bound + 1) : upTo(Math.max(1, bound));
    }

    private static Object[] argumentsOf(Method method) {
        int desks = program.field(1);
        int wires = program.field(2);
        int messages = program.field(3);
        Object desk = number(desks);
        Object other = upTo(12) == 0 ? desk : (Object) number(desks);
        int what = number(18);
        switch (method.getName()) {
            case "ground": { int from = cell(); return new Object[] {from, from - 1 + upTo(4), number(10), number(4)}; }
            case "desk": return new Object[] {cell(), number(6), number(10), number(10), upTo(2) == 0};
            case "state": return new Object[] {desk, value()};
            case "wire": return new Object[] {desk, other, upTo(3) == 0};
            case "shell": case "post": return new Object[] {upTo(8) == 0 ? -1 : cell()};
            case "mend": return new Object[] {desk, number(wires)};
            case "move": return new Object[] {upTo(3) == 0 ? desk : (Object) (-1), cell()};
            case "birds": return new Object[] {desk, other, number(10)};
            case "write": return new Object[] {desk, other, number(3), 1 + number(99), number(2), upTo(2) == 0, value()};
            case "fly": case "tell": case "would": return new Object[] {number(messages)};
            case "turn": case "right": case "best": case "heard": return new Object[] {desk};
            case "capture": return new Object[] {number(11)};
            case "jam": return new Object[] {upTo(20) == 0 ? 241 : upTo(4) == 0 ? upTo(241) : upTo(6)};
            case "pass": return new Object[] {upTo(10) == 0 ? number(242) : upTo(3) == 0 ? 1 + upTo(30) : 1 + upTo(4)};
            case "ofCell": return new Object[] {cell(), number(6)};
            case "course": return new Object[] {cell(), cell(), upTo(50) == 0 ? Integer.MAX_VALUE : number(9)};
            case "sees": return new Object[] {cell(), cell()};
            case "ofDesk": return new Object[] {desk, number(14)};
            case "ofBirds": case "route": return new Object[] {desk, other};
            case "ofWire": return new Object[] {number(wires), number(8)};
            case "ofMessage": return new Object[] {number(messages), number(15)};
            case "belief": return new Object[] {desk, other, number(3)};
            case "diary": return new Object[] {desk, other, number(program.field(0) + 1)};
            case "field": return new Object[] {what};
            case "delay": return new Object[] {desk, other, 1 + number(99), number(2)};
            case "weak": return new Object[] {number(wires)};
            default: return new Object[0];
        }
    }

    private static int value() {
        return upTo(30) == 0 ? 100 - 200 * upTo(2) : upTo(7) - 3;
    }

    private static Method method(Class<?> face, String name) {
        for (Method method : face.getMethods()) {
            if (method.getName().equals(name)) {
                return method;
            }
        }
        throw new IllegalStateException(name);
    }

    private static void callBoth(String name, Object[] arguments) throws Exception {
        calls.add(name + Arrays.toString(arguments));
        Object want = answerOf(model, name, arguments);
        Object got = answerOf(program, name, arguments);
        if (!want.equals(got)) {
            fail("answered " + got + ", the model " + want);
        }
        if (program.digest() != model.digest()) {
            fail("the digests differ behind it");
        }
        if (!program.isSound()) {
            fail("it is not sound");
        }
    }

    private static Object answerOf(Object object, String name, Object[] arguments) throws Exception {
        try {
            return method(object.getClass(), name).invoke(object, arguments);
        } catch (InvocationTargetException e) {
            Throwable thrown = e.getCause();
            if (object == program) {
                throwsSeen++;
                if (!thrown.getStackTrace()[0].getClassName().startsWith("Fieldwire")) {
                    fail("the library threw " + thrown);
                }
            }
            return "throws " + thrown.getClass().getName();
        }
    }

    private static void fail(String why) {
        for (String call : calls) {
            System.out.println("  " + call);
        }
        System.out.println("RandomRunsTest, the last of these calls: " + why);
        System.exit(1);
    }
}
