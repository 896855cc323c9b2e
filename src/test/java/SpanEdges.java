/** The edges that every call which takes a span of columns has. */
final class SpanEdges {
    interface Call {
        int ask(PressedPlains plain, int from, int to);
    }

    private SpanEdges() {
    }

    static void noSuchColumn(String name, Call call) {
        Check.sentence("Throws `IndexOutOfBoundsException` if there is no such column", name);
        for (int columns : new int[] {1, 4, 63, 64}) {
            PressedPlains plain = Plains.flat(columns, 5);
            Refused.wrongColumns(name, plain, (from, to) -> call.ask(plain, from, to));
        }
        PressedPlains plain = Plains.lagging();
        Refused.wrongColumns(name, plain, (from, to) -> call.ask(plain, from, to));
    }

    static void toBeforeFrom(String name, Call call) {
        Check.sentence("Throws `IllegalArgumentException` if to is less than from", name);
        PressedPlains plain = Plains.lagging();
        Refused.toLessThanFrom(name, plain, (from, to) -> call.ask(plain, from, to));
    }
}
