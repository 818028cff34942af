/** Counts the calls that do not answer what is due. */
final class Due {
    private static int wrong;
    private static int asked;
    private static String heading = "";

    private Due() { }

    /** What stands ahead of each complaint from here on. */
    static void heading(String text) {
        heading = text;
    }

    static void is(String call, Object due, Object got) {
        asked++;
        if (!due.equals(got)) {
            wrong++;
            System.out.println(heading + call + " answered " + got + ", due is " + due);
        }
    }

    /** The very class: one below it is what the machine throws by itself. */
    static void fails(String call, Class<?> due, Runnable run) {
        Class<?> got = null;
        try {
            run.run();
        } catch (RuntimeException e) {
            got = e.getClass();
        }
        asked++;
        if (got != due) {
            wrong++;
            System.out.println(heading + call + " threw " + got + ", due is " + due);
        }
    }

    static void outside(String call, Runnable run) {
        fails(call, IndexOutOfBoundsException.class, run);
    }

    static void argument(String call, Runnable run) {
        fails(call, IllegalArgumentException.class, run);
    }

    static void state(String call, Runnable run) {
        fails(call, IllegalStateException.class, run);
    }

    static void end(String test) {
        System.out.println(test + ": " + asked + " answers, " + wrong + " wrong");
        System.exit(wrong == 0 ? 0 : 1);
    }
}
