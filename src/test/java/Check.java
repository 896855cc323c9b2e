/** Compares answers with those that are due, and ends a test with exit code 1 if one was wrong. */
final class Check {
    private static int calls = 0;
    private static int wrong = 0;

    private Check() {
    }

    static void same(String what, long got, long due) {
        tell(what, got == due, Long.toString(got), Long.toString(due));
    }

    static void same(String what, double got, double due) {
        tell(what, Double.compare(got, due) == 0, Double.toString(got), Double.toString(due));
    }

    static void same(String what, String got, String due) {
        tell(what, got.equals(due), got, due);
    }

    static void isTrue(String what, boolean got) {
        tell(what, got, "no", "yes");
    }

    static void outOfBounds(String what, Runnable call) {
        throwing(what, IndexOutOfBoundsException.class, call);
    }

    static void illegalArgument(String what, Runnable call) {
        throwing(what, IllegalArgumentException.class, call);
    }

    static void illegalState(String what, Runnable call) {
        throwing(what, IllegalStateException.class, call);
    }

    static void noSuchElement(String what, Runnable call) {
        throwing(what, java.util.NoSuchElementException.class, call);
    }

    /** The very class is asked for: the machine's own exceptions are subclasses of some of these. */
    private static void throwing(String what, Class<?> due, Runnable call) {
        String got = "nothing";
        try {
            call.run();
        } catch (RuntimeException e) {
            got = e.getClass().getName();
        }
        tell(what + " throws", got.equals(due.getName()), got, due.getName());
    }

    private static void tell(String what, boolean right, String got, String due) {
        calls++;
        if (!right) {
            wrong++;
            System.out.println(what + " answered " + got + ", due is " + due);
        }
    }

    static void end() {
        System.out.println(calls + " answers looked at, " + wrong + " wrong");
        if (wrong > 0 || calls == 0) {
            System.exit(1);
        }
    }
}
