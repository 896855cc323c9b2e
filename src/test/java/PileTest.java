/** Promise 3, and the terms "piling" and "telling anew". */
public final class PileTest {
    public static void main(String[] args) {
        answers();
        tellsEntriesAnew();
        catchesUpOnTheWay();
        Check.end();
    }

    private static void answers() {
        PressedPlains plain = new PressedPlains();
        plain.layOut(4, 10);
        Check.same("pile(2, 5)", plain.pile(2, 5), 15);
        Check.same("pile(2, 1)", plain.pile(2, 1), 16);
        Check.same("height", plain.height(2), 16);
        Check.same("kept", plain.heightOfColumn(2), 16);
        Check.same("neighbour", plain.height(1), 10);
    }

    private static void tellsEntriesAnew() {
        PressedPlains plain = new PressedPlains();
        plain.layOut(4, 10);
        plain.pile(2, 5);
        Check.same("greatest(1)", plain.greatest(1), 15);
        Check.same("second(1)", plain.second(1), 10);
        Check.same("many(1)", plain.many(1), 1);
        Check.same("noted(1)", plain.noted(1), 45);
        Check.same("many(2)", plain.many(2), 2);
        Check.same("second(6)", plain.second(6), -1);
        Check.same("noted(6)", plain.noted(6), 15);
        plain.pile(0, 5);
        Check.same("both have it: many(1)", plain.many(1), 2);
        Check.same("both have it: second(1)", plain.second(1), 10);
        plain.pile(0, 4);
        Check.same("first has it: greatest(1)", plain.greatest(1), 19);
        Check.same("first has it: many(1)", plain.many(1), 1);
        Check.same("second of the other's greatest", plain.second(1), 15);
    }

    private static void catchesUpOnTheWay() {
        PressedPlains plain = Plains.of(8, 3, 8, 2);
        plain.lower(0, 3, 5);
        Check.same("lagging", plain.lagging(), 2);
        Check.same("pile(1, 1)", plain.pile(1, 1), 4);
        Check.same("visits", plain.visits(), 3);
        Check.same("greatest(2)", plain.greatest(2), 5);
        Check.same("greatest(3)", plain.greatest(3), 5);
        Check.same("greatest(4)", plain.greatest(4), 5);
        Check.same("greatest(6) lags on", plain.greatest(6), 8);
        Check.same("lagging then", plain.lagging(), 1);
        Check.same("noted(1)", plain.noted(1), 16);
        Check.same("pile(0, 1) on a pressed column", plain.pile(0, 1), 6);
        Check.same("height(0)", plain.height(0), 6);
    }
}
