/** Promises 2 and 13. */
public final class LayOutTest {
    public static void main(String[] args) {
        answersAndEdges();
        laysOutEveryWidth();
        forgetsWhatWas();
        Check.end();
    }

    private static void answersAndEdges() {
        PressedPlains plain = new PressedPlains();
        Check.same("layOut(1, 0)", plain.layOut(1, 0), 0);
        Check.same("layOut(1, 1000)", plain.layOut(1, 1000), 1000);
        Check.same("layOut(64, 0)", plain.layOut(64, 0), 0);
        Check.same("layOut(64, 1000)", plain.layOut(64, 1000), 64000);
        Check.same("layOut(5, 7)", plain.layOut(5, 7), 35);
    }

    private static void laysOutEveryWidth() {
        PressedPlains plain = new PressedPlains();
        for (int columns = 1; columns <= 64; columns++) {
            Check.same("layOut", plain.layOut(columns, 9), 9L * columns);
            Check.same("columns", plain.columns(), columns);
            Check.same("greatest", plain.greatest(1), 9);
            Check.same("second", plain.second(1), -1);
            Check.same("many", plain.many(1), columns);
            Check.same("noted", plain.noted(1), 9L * columns);
            Check.same("spanOf", plain.spanOf(1), columns - 1L);
            Check.same("heightOfColumn", plain.heightOfColumn(columns - 1), 9);
            Check.same("height", plain.height(columns - 1), 9);
            int beyond = columns;
            Check.outOfBounds("height beyond", () -> plain.height(beyond));
        }
    }

    private static void forgetsWhatWas() {
        PressedPlains plain = Plains.of(5, 0, 9, 3, 8, 8, 1);
        plain.lower(0, 6, 7);
        plain.lower(2, 4, 2);
        Check.same("layOut(7, 4)", plain.layOut(7, 4), 28);
        PressedPlains fresh = new PressedPlains();
        fresh.layOut(7, 4);
        Check.same("laid out again", Snapshot.of(plain), Snapshot.of(fresh));
        Check.same("visits", plain.visits(), 0);
        Check.same("pressedAway", plain.pressedAway(), 0);
        Check.noSuchElement("ceilingOver(3)", () -> plain.ceilingOver(3));

        plain.layOut(64, 1000);
        plain.layOut(1, 0);
        Check.same("narrow again", Snapshot.of(plain), Snapshot.of(new PressedPlains()));
    }
}
