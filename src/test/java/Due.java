/** What is due of a call: counts and prints what is not so. */
final class Due {
    private static int asked = 0;
    private static int wrong = 0;

    private Due() {
    }

    static void is(String call, Object got, Object want) {
        asked++;
        if (!want.equals(got)) {
            wrong++;
            System.out.println(call + " answered " + got + ", due is " + want);
        }
    }

    /** The call throws just this exception, by a throw of the program, and changes nothing that can be asked. */
    static void no(String call, Class<? extends RuntimeException> kind, Fieldwire x, Runnable made) {
        String before = all(x);
        Throwable thrown = null;
        try {
            made.run();
        } catch (RuntimeException e) {
            thrown = e;
        }
        is(call + " throws", thrown == null ? "nothing" : thrown.getClass().getName(), kind.getName());
        if (thrown != null) {
            is(call + " is thrown by", thrown.getStackTrace()[0].getClassName().split("\\$")[0], "Fieldwire");
        }
        is(call + " changes nothing", all(x), before);
    }

    static void noIndex(String call, Fieldwire x, Runnable made) {
        no(call, IndexOutOfBoundsException.class, x, made);
    }

    static void noArgument(String call, Fieldwire x, Runnable made) {
        no(call, IllegalArgumentException.class, x, made);
    }

    static void noState(String call, Fieldwire x, Runnable made) {
        no(call, IllegalStateException.class, x, made);
    }

    /** All that can be asked of it, but for its past. */
    static String all(Fieldwire x) {
        StringBuilder all = new StringBuilder().append(x.digest());
        for (int cell = 0; cell < 64; cell++) {
            for (int what = 0; what <= 5; what++) {
                all.append(' ').append(x.ofCell(cell, what));
            }
        }
        for (int message = 0; message < x.field(3); message++) {
            all.append(x.tell(message));
        }
        return all.toString();
    }

    static void end(String name) {
        System.out.println(name + ": " + (asked - wrong) + " of " + asked + " answers are as due");
        if (wrong != 0 || asked == 0) {
            System.exit(1);
        }
    }
}
