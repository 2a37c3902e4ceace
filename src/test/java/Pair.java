import java.lang.reflect.InvocationTargetException;
import java.lang.reflect.Method;
import java.util.ArrayList;
import java.util.Arrays;
import java.util.HashMap;
import java.util.List;
import java.util.Map;

/**
 * A program's object and a Model side by side, and calls by chance for both: each answer and each exception has to be
 * the same, and no exception may come from the Java machine or its library.
 */
final class Pair {
    private static final Map<String, Method> METHODS = new HashMap<>();
    static long throwsSeen = 0;

    final Fieldwire program = new Fieldwire();
    final Model model = new Model();
    /** What has been called, and what was answered. */
    final List<String> names = new ArrayList<>();
    final List<Object[]> arguments = new ArrayList<>();
    final List<Object> answers = new ArrayList<>();
    /** One wrong number of so many: greater is more often right. */
    int rightly = 30;
    private final String test;
    private final int around;
    private long seed;

    Pair(String test, long seed) {
        this.test = test;
        this.seed = seed;
        this.around = upTo(64);
    }

    int upTo(int bound) {
        seed = seed * 6364136223846793005L + 1442695040888963407L;
        return (int) ((seed >>> 33) % bound);
    }

    /** A CELL, mostly near those of the other calls, so that things meet. */
    int cell() {
        if (upTo(rightly + 10) == 0) {
            return upTo(2) == 0 ? -2 + upTo(2) : 64 + upTo(3);
        }
        if (upTo(3) > 0) {
            int row = Math.min(7, Math.max(0, around / 8 + upTo(5) - 2));
            int column = Math.min(7, Math.max(0, around % 8 + upTo(5) - 2));
            return row * 8 + column;
        }
        return upTo(64);
    }

    int number(int bound) {
        return upTo(rightly) == 0 ? -1 + upTo(2) * (bound + 1) : upTo(Math.max(1, bound));
    }

    int value() {
        return upTo(rightly) == 0 ? 100 - 200 * upTo(2) : upTo(7) - 3;
    }

    Object[] argumentsFor(String name) {
        int desks = model.field(1);
        int wires = model.field(2);
        int messages = model.field(3);
        Object desk = number(desks);
        Object other = upTo(12) == 0 ? desk : (Object) number(desks);
        int what = number(18);
        switch (name) {
            case "ground": { int from = cell(); return new Object[] {from, from - 1 + upTo(4), number(10), number(4)}; }
            case "desk": return new Object[] {cell(), number(6), number(10), number(10), upTo(2) == 0};
            case "state": return new Object[] {desk, value()};
            case "wire": return new Object[] {desk, other, upTo(3) == 0};
            case "shell": case "post": return new Object[] {upTo(8) == 0 ? -1 : cell()};
            case "mend": return new Object[] {desk, number(wires)};
            case "move": return new Object[] {upTo(3) == 0 ? desk : (Object) (-1), cell()};
            case "birds": return new Object[] {desk, other, number(10)};
            case "write": return new Object[] {desk, other, number(3), 1 + number(99), number(2), upTo(2) == 0, value()};
            case "fly": case "tell": case "would": return new Object[] {number(messages)};
            case "turn": case "right": case "best": case "heard": return new Object[] {desk};
            case "capture": return new Object[] {number(11)};
            case "jam": return new Object[] {upTo(20) == 0 ? 241 : upTo(4) == 0 ? upTo(241) : upTo(6)};
            case "pass": return new Object[] {upTo(10) == 0 ? number(242) : upTo(3) == 0 ? 1 + upTo(30) : 1 + upTo(4)};
            case "ofCell": return new Object[] {cell(), number(6)};
            case "course": return new Object[] {cell(), cell(), upTo(50) == 0 ? Integer.MAX_VALUE : number(9)};
            case "sees": return new Object[] {cell(), cell()};
            case "ofDesk": return new Object[] {desk, number(14)};
            case "ofBirds": case "route": return new Object[] {desk, other};
            case "ofWire": return new Object[] {number(wires), number(8)};
            case "ofMessage": return new Object[] {number(messages), number(15)};
            case "belief": return new Object[] {desk, other, number(3)};
            case "diary": return new Object[] {desk, other, number(model.field(0) + 1)};
            case "field": return new Object[] {what};
            case "delay": return new Object[] {desk, other, 1 + number(99), number(2)};
            case "weak": return new Object[] {number(wires)};
            default: return new Object[0];
        }
    }

    void call(String name) {
        call(name, argumentsFor(name));
    }

    /** Calls both; the answer is theirs. */
    Object call(String name, Object... with) {
        names.add(name);
        arguments.add(with);
        Object want = answerOf(model, name, with);
        Object got = answerOf(program, name, with);
        answers.add(got);
        if (!want.equals(got)) {
            fail("answered " + got + ", the model " + want);
        }
        return got;
    }

    /** The digests are the same, and it is sound: two calls more of the program, which are not noted. */
    void compare() {
        if (program.digest() != model.digest()) {
            fail("the digests differ behind it");
        }
        if (!program.isSound()) {
            fail("it is not sound");
        }
    }

    private Object answerOf(Object object, String name, Object[] with) {
        try {
            return method(object.getClass(), name).invoke(object, with);
        } catch (InvocationTargetException e) {
            Throwable thrown = e.getCause();
            if (object == program) {
                throwsSeen++;
                if (!thrown.getStackTrace()[0].getClassName().startsWith("Fieldwire")) {
                    fail("the library threw " + thrown);
                }
            }
            return "throws " + thrown.getClass().getName();
        } catch (IllegalAccessException e) {
            throw new IllegalStateException(e);
        }
    }

    /** What another object answers to a call that is noted here. */
    Object again(int k, Fieldwire other) {
        try {
            return method(Fieldwire.class, names.get(k)).invoke(other, arguments.get(k));
        } catch (InvocationTargetException e) {
            return "throws " + e.getCause().getClass().getName();
        } catch (IllegalAccessException e) {
            throw new IllegalStateException(e);
        }
    }

    private static Method method(Class<?> face, String name) {
        String key = face.getName() + "." + name;
        Method found = METHODS.get(key);
        for (Method method : found == null ? face.getMethods() : new Method[0]) {
            if (method.getName().equals(name)) {
                found = method;
                METHODS.put(key, method);
            }
        }
        return found;
    }

    void fail(String why) {
        for (int k = 0; k < names.size(); k++) {
            Object answer = k < answers.size() ? answers.get(k) : "";
            System.out.println("  " + names.get(k) + Arrays.toString(arguments.get(k)) + " " + answer);
        }
        System.out.println(test + ", behind the last of these calls: " + why);
        System.exit(1);
    }
}
