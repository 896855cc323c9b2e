/** Compares answers with those that are due, and ends a test with exit code 1 if one was wrong. */
final class Check {
    private static int calls = 0;
    private static int wrong = 0;
    private static int sentences = 0;
    private static String sentence = "";
    private static int callsBefore = 0;

    private Check() {
    }

    /** Names the document's words that the answers from here on are looked at for. */
    static void sentence(String words) {
        closeSentence();
        sentences++;
        sentence = '"' + words + '"';
        callsBefore = calls;
    }

    /** The same, with the one call or edge of several that the words are for. */
    static void sentence(String words, String edge) {
        sentence(words);
        sentence += ", " + edge;
    }

    static void same(String what, long got, long due) {
        tell(what, got == due, Long.toString(got), Long.toString(due));
    }

    static void same(String what, double got, double due) {
        tell(what, Double.compare(got, due) == 0, Double.toString(got), Double.toString(due));
    }

    static void same(String what, String got, String due) {
        tell(what, got.equals(due), got, due);
    }

    static void isTrue(String what, boolean got) {
        tell(what, got, "no", "yes");
    }

    static void outOfBounds(String what, Runnable call) {
        throwing(what, IndexOutOfBoundsException.class, call);
    }

    static void illegalArgument(String what, Runnable call) {
        throwing(what, IllegalArgumentException.class, call);
    }

    static void illegalState(String what, Runnable call) {
        throwing(what, IllegalStateException.class, call);
    }

    static void noSuchElement(String what, Runnable call) {
        throwing(what, java.util.NoSuchElementException.class, call);
    }

    /** The very class is asked for: the machine's own exceptions are subclasses of some of these. */
    private static void throwing(String what, Class<?> due, Runnable call) {
        String got = "nothing";
        try {
            call.run();
        } catch (RuntimeException e) {
            got = e.getClass().getName();
        }
        tell(what + " throws", got.equals(due.getName()), got, due.getName());
    }

    private static void tell(String what, boolean right, String got, String due) {
        calls++;
        if (!right) {
            wrong++;
            String place = sentence.isEmpty() ? "" : sentence + ": ";
            System.out.println(place + what + " answered " + got + ", due is " + due);
        }
    }

    private static void closeSentence() {
        if (!sentence.isEmpty() && calls == callsBefore) {
            wrong++;
            System.out.println(sentence + ": no answer was looked at");
        }
    }

    static void end() {
        closeSentence();
        String edges = sentences == 0 ? "" : " for " + sentences + " edges";
        System.out.println(calls + " answers" + edges + ", " + wrong + " wrong");
        if (wrong > 0 || calls == 0) {
            System.exit(1);
        }
    }
}
