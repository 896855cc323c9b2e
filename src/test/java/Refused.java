/** Calls that must be refused: each throws what is due, changes nothing and comes to no entry. */
final class Refused {
    /** A call that takes a span of columns. */
    interface SpanCall {
        int ask(int from, int to);
    }

    private Refused() {
    }

    static void outOfBounds(String what, PressedPlains plain, Runnable call) {
        changingNothing(what, plain, () -> Check.outOfBounds(what, call));
    }

    static void illegalArgument(String what, PressedPlains plain, Runnable call) {
        changingNothing(what, plain, () -> Check.illegalArgument(what, call));
    }

    static void illegalState(String what, PressedPlains plain, Runnable call) {
        changingNothing(what, plain, () -> Check.illegalState(what, call));
    }

    static void noSuchElement(String what, PressedPlains plain, Runnable call) {
        changingNothing(what, plain, () -> Check.noSuchElement(what, call));
    }

    /** Numbers out of a range: right beside it, as far off as can be, and some that wrap to it. */
    static int[] beside(int least, int most) {
        return new int[] {
            least - 1, most + 1, Integer.MIN_VALUE, Integer.MIN_VALUE + least, Integer.MAX_VALUE,
            least + 65536, most - 65536};
    }

    /** Each wrong column as from, as to, and as both. */
    static void wrongColumns(String name, PressedPlains plain, SpanCall call) {
        int last = plain.columns() - 1;
        for (int column : beside(0, last)) {
            outOfBounds(name + " from " + column, plain, () -> call.ask(column, last));
            outOfBounds(name + " to " + column, plain, () -> call.ask(0, column));
            outOfBounds(name + " at " + column, plain, () -> call.ask(column, column));
        }
    }

    static void toLessThanFrom(String name, PressedPlains plain, SpanCall call) {
        int last = plain.columns() - 1;
        for (int column = 0; column < last; column++) {
            int from = column + 1;
            int to = column;
            illegalArgument(name + " to one less, " + to, plain, () -> call.ask(from, to));
        }
        illegalArgument(name + " from the last to the first", plain, () -> call.ask(last, 0));
    }

    /** Behind a wrong column, a span that is also the wrong way round. */
    static void wrongColumnFirst(String name, PressedPlains plain, SpanCall call) {
        int last = plain.columns() - 1;
        outOfBounds(name + " from beyond to less", plain, () -> call.ask(last + 1, last));
        outOfBounds(name + " to below 0", plain, () -> call.ask(0, -1));
        outOfBounds(name + " both wrong", plain, () -> call.ask(last + 1, -1));
        outOfBounds(name + " as far off as can be", plain,
                () -> call.ask(Integer.MAX_VALUE, Integer.MIN_VALUE));
    }

    private static void changingNothing(String what, PressedPlains plain, Runnable look) {
        String before = Snapshot.of(plain);
        look.run();
        Check.same(what + " left", Snapshot.of(plain), before);
    }
}
