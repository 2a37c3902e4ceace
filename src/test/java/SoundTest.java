import java.lang.reflect.Field;
import java.util.List;

/**
 * Promise 36, isSound(): no call makes an object unsound, so each part of it is put wrong inside the object, by the
 * names of its fields, and has to be found.
 */
public final class SoundTest {
    private interface Harm {
        void on(Fieldwire x) throws ReflectiveOperationException;
    }

    public static void main(String[] args) throws ReflectiveOperationException {
        finds("a wire that carries two messages", x -> set(message(x, 3), "wire", get(message(x, 1), "wire")));
        finds("a wire that carries the first message too", x -> set(message(x, 0), "wire", get(message(x, 1), "wire")));
        finds("more messages on wires than cords", x -> set(desk(x, 0), "cords", 1));
        finds("two on the air", x -> {
            set(message(x, 3), "standing", get(message(x, 4), "standing"));
            set(message(x, 3), "means", get(message(x, 4), "means"));
        });
        finds("a belief of a message that waits", x -> set(message(x, 0), "standing", get(message(x, 3), "standing")));
        finds("a belief of a message that is on its way",
                x -> set(message(x, 0), "standing", get(message(x, 4), "standing")));
        finds("a belief of a message to another desk", x -> set(letter(x, 0), "to", desk(x, 2)));
        finds("a belief of a message from another desk", x -> set(letter(x, 0), "from", desk(x, 2)));
        finds("a belief of the first desk that waits", x -> {
            Object[] reports = (Object[]) get(desk(x, 1), "reports");
            reports[0] = message(x, 3);
        });
        finds("a battery below 0", x -> set(desk(x, 0), "battery", -1));
        finds("a battery below 0 at the last desk", x -> set(desk(x, 2), "battery", -1));
        allows("a battery of 0", x -> set(desk(x, 0), "battery", 0));
        for (int more = -1; more <= 1; more += 2) {
            int by = more;
            finds("a runner at a desk", x -> add(desk(x, 2), "runners", by));
            finds("a linesman at a desk", x -> add(desk(x, 0), "linesmen", by));
            finds("a runner lost", x -> add(get(x, "traffic"), "runnersLost", by));
            finds("a linesman lost", x -> add(get(x, "net"), "linesmenLost", by));
        }
        finds("a linesman under way", x -> list(get(x, "net"), "linesmen").remove(0));
        finds("a runner under way", x -> set(message(x, 5), "standing", get(message(x, 3), "standing")));
        allows("nothing", x -> { });
        digestTellsIt();
        Due.end("SoundTest");
    }

    /** Message 0 came and is believed, 1 and 2 are on wires, 3 waits, 4 is on the air, 5 goes by runner. */
    private static Fieldwire busy() {
        Fieldwire x = new Fieldwire();
        x.ground(0, 63, 0, 1);
        x.desk(0, 2, 0, 2, true);
        x.desk(3, 1, 2, 0, true);
        x.desk(6, 1, 1, 0, true);
        x.desk(63, 1, 0, 0, false);
        x.wire(0, 1, false);
        x.wire(0, 2, false);
        Made.report(x, 1, 0, 1);
        x.pass(2);
        Made.report(x, 0, 1, 99);
        Made.report(x, 0, 2, 99);
        Made.report(x, 0, 1, 99);
        x.write(1, 0, 0, 99, 0, false, 0);
        Made.report(x, 2, 3, 1);
        x.mend(0, 0);
        x.pass(1);
        int[] standing = {2, 1, 1, 0, 1, 1};
        int[] means = {0, 0, 0, -1, 2, 3};
        for (int message = 0; message < 6; message++) {
            Due.is("message " + message, x.ofMessage(message, 8), standing[message]);
            Due.is("means of " + message, x.ofMessage(message, 10), means[message]);
        }
        Due.is("it is believed", x.belief(0, 1, 1), 0);
        return x;
    }

    /** "isSound() (1 or 0)" is the last number of the digest: what is harmed here is asked by nothing else. */
    private static void digestTellsIt() throws ReflectiveOperationException {
        Fieldwire x = busy();
        long sound = x.digest();
        add(x, "runnersTold", 1);
        Due.is("not sound", x.isSound(), false);
        Due.is("its digest", x.digest(), sound - 1);
    }

    private static void finds(String told, Harm harm) throws ReflectiveOperationException {
        Due.is(told, harmed(harm), false);
    }

    private static void allows(String told, Harm harm) throws ReflectiveOperationException {
        Due.is(told, harmed(harm), true);
    }

    private static boolean harmed(Harm harm) throws ReflectiveOperationException {
        Fieldwire x = busy();
        Due.is("sound at first", x.isSound(), true);
        harm.on(x);
        return x.isSound();
    }

    private static Field field(Object of, String name) throws ReflectiveOperationException {
        Field field = of.getClass().getDeclaredField(name);
        field.setAccessible(true);
        return field;
    }

    private static Object get(Object of, String name) throws ReflectiveOperationException {
        return field(of, name).get(of);
    }

    private static void set(Object of, String name, Object value) throws ReflectiveOperationException {
        field(of, name).set(of, value);
    }

    private static void add(Object of, String name, int more) throws ReflectiveOperationException {
        set(of, name, (Integer) get(of, name) + more);
    }

    private static List<?> list(Object of, String name) throws ReflectiveOperationException {
        return (List<?>) get(of, name);
    }

    private static Object desk(Fieldwire x, int number) throws ReflectiveOperationException {
        return list(get(x, "net"), "desks").get(number);
    }

    private static Object message(Fieldwire x, int number) throws ReflectiveOperationException {
        return list(get(x, "traffic"), "messages").get(number);
    }

    private static Object letter(Fieldwire x, int number) throws ReflectiveOperationException {
        return get(message(x, number), "letter");
    }
}
