import java.lang.management.ManagementFactory;

/**
 * All calls of one run live in one room of some 600,000 objects and 7.3 million fields and elements: 512 of any call,
 * on an object in which there is all that can be, take a small part of it. (An object takes 8 bytes at the very least,
 * an element one: so few bytes hold neither so many objects nor so many elements.)
 */
public final class RoomTest {
    private static final int CALLS = 512;
    private static final long MOST_BYTES = 600_000;

    private interface Call {
        void on(Fieldwire x, int k);
    }

    public static void main(String[] args) {
        takesLittle("a new one alone", (x, k) -> { });
        takesLittle("ground", (x, k) -> x.ground(0, 63, k % 2, k % 3));
        takesLittle("state", (x, k) -> x.state(0, k % 99));
        takesLittle("shell", (x, k) -> x.shell(k % 64));
        takesLittle("mend", (x, k) -> mendOrPass(x, k));
        takesLittle("move", (x, k) -> x.move(5, k % 2));
        takesLittle("birds", (x, k) -> x.birds(0, 1, k % 10));
        takesLittle("turn", (x, k) -> x.turn(k % 6));
        takesLittle("capture", (x, k) -> x.capture(1 + k % 9));
        takesLittle("post", (x, k) -> x.post(k % 64));
        takesLittle("jam", (x, k) -> x.jam(k % 241));
        takesLittle("pass(5)", (x, k) -> x.pass(5));
        takesLittle("call", (x, k) -> x.call());
        takesLittle("ofCell", (x, k) -> x.ofCell(k % 64, k % 6));
        takesLittle("course", (x, k) -> x.course(0, 63, k % 9));
        takesLittle("sees", (x, k) -> x.sees(k % 64, 63));
        takesLittle("ofDesk", (x, k) -> x.ofDesk(k % 6, k % 14));
        takesLittle("ofBirds", (x, k) -> x.ofBirds(k % 6, 1));
        takesLittle("ofWire", (x, k) -> x.ofWire(k % 10, k % 8));
        takesLittle("ofMessage", (x, k) -> x.ofMessage(k % 20, k % 15));
        takesLittle("belief", (x, k) -> x.belief(k % 6, 0, k % 3));
        takesLittle("diary", (x, k) -> x.diary(1 + k % 5, 0, 60));
        takesLittle("right", (x, k) -> x.right(k % 6));
        takesLittle("field", (x, k) -> x.field(k % 17));
        takesLittle("route", (x, k) -> x.route(k % 6, 0));
        takesLittle("tell", (x, k) -> x.tell(k % 20));
        takesLittle("would", (x, k) -> x.would(k % 20));
        takesLittle("delay", (x, k) -> x.delay(1 + k % 5, 0, 99, 1));
        takesLittle("best", (x, k) -> x.best(k % 6));
        takesLittle("heard", (x, k) -> x.heard(k % 6));
        takesLittle("weak", (x, k) -> x.weak(k % 10));
        takesLittle("isSound", (x, k) -> x.isSound());
        takesLittle("digest", (x, k) -> x.digest());
        Due.end("RoomTest");
    }

    private static void mendOrPass(Fieldwire x, int k) {
        if (x.ofDesk(k % 5, 4) > 0) {
            x.mend(k % 5, k % 5);
        } else {
            x.pass(1);
        }
    }

    private static void takesLittle(String told, Call call) {
        Fieldwire x = full();
        call.on(full(), 1);
        long before = bytes();
        for (int k = 0; k < CALLS; k++) {
            call.on(x, k);
        }
        long taken = bytes() - before;
        Due.is(told + " takes little: " + taken, taken <= MOST_BYTES, true);
    }

    /** Six DESKS, ten WIRES, 20 messages, men under way, and an hour gone. */
    private static Fieldwire full() {
        Fieldwire x = new Fieldwire();
        x.ground(0, 63, 0, 1);
        for (int desk = 0; desk < 6; desk++) {
            x.desk(desk * 11, 4, 9, 9, true);
        }
        for (int wire = 0; wire < 10; wire++) {
            x.wire(wire % 5, wire % 5 + 1, wire > 4);
        }
        for (int k = 0; k < 20; k++) {
            x.write(k % 6, (k + 1 + k % 5) % 6, k % 3, 99, k % 2, k % 4 == 0, k);
        }
        x.shell(11);
        x.mend(0, 0);
        x.pass(60);
        return x;
    }

    private static long bytes() {
        com.sun.management.ThreadMXBean threads = (com.sun.management.ThreadMXBean) ManagementFactory.getThreadMXBean();
        return threads.getThreadAllocatedBytes(Thread.currentThread().getId());
    }
}
