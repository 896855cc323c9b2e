/** Promise 4, and the terms "lowering", "pressing down" and "catching up". */
public final class LowerTest {
    public static void main(String[] args) {
        pressesOneEntryAlone();
        goesDownToTheSecondHeight();
        pressesAPart();
        catchesUpOnTheWay();
        pressesNothing();
        pressesOneColumn();
        Check.end();
    }

    private static void pressesOneEntryAlone() {
        PressedPlains plain = Plains.of(8, 3, 8, 2);
        Check.same("lower(0, 3, 5)", plain.lower(0, 3, 5), 6);
        Check.same("visits", plain.visits(), 1);
        Check.same("greatest(1)", plain.greatest(1), 5);
        Check.same("second(1)", plain.second(1), 3);
        Check.same("many(1)", plain.many(1), 2);
        Check.same("noted(1)", plain.noted(1), 15);
        Check.same("greatest(2) lags", plain.greatest(2), 8);
        Check.same("noted(2) lags", plain.noted(2), 11);
        Check.same("heightOfColumn(0)", plain.heightOfColumn(0), 5);
        Check.same("heightOfColumn(1)", plain.heightOfColumn(1), 3);
    }

    private static void goesDownToTheSecondHeight() {
        PressedPlains plain = Plains.of(8, 3, 8, 2);
        Check.same("lower(0, 3, 3)", plain.lower(0, 3, 3), 10);
        // 3 is not greater than the second height of the entries 1 and 2, but than that of 3.
        Check.same("visits", plain.visits(), 5);
        Check.same("greatest(1)", plain.greatest(1), 3);
        Check.same("many(1)", plain.many(1), 3);
        Check.same("second(1)", plain.second(1), 2);
        Check.same("greatest(3)", plain.greatest(3), 3);
        Check.same("greatest(6) lags", plain.greatest(6), 8);
        Check.same("lagging", plain.lagging(), 1);
        Check.same("lower(0, 3, 0)", plain.lower(0, 3, 0), 11);
        Check.same("second(1) of the flat", plain.second(1), -1);
        Check.same("many(1) of the flat", plain.many(1), 4);
    }

    private static void pressesAPart() {
        PressedPlains plain = new PressedPlains();
        plain.layOut(7, 10);
        Check.same("lower(2, 4, 6)", plain.lower(2, 4, 6), 12);
        // 1, 2, 4, 5 (pressed), 3, 6, 12 (pressed), 13, 7
        Check.same("visits", plain.visits(), 9);
        Check.same("second(1)", plain.second(1), 6);
        Check.same("many(1)", plain.many(1), 4);
        Check.same("noted(1)", plain.noted(1), 58);
        Check.same("greatest(5)", plain.greatest(5), 6);
        Check.same("greatest(10) lags", plain.greatest(10), 10);
        Check.same("lagging", plain.lagging(), 2);
        Check.same("height(1)", plain.height(1), 10);
        Check.same("height(2)", plain.height(2), 6);
        Check.same("height(4)", plain.height(4), 6);
        Check.same("height(5)", plain.height(5), 10);
    }

    private static void catchesUpOnTheWay() {
        PressedPlains plain = Plains.of(8, 3, 8, 2);
        plain.lower(0, 3, 5);
        Check.same("lower(0, 1, 4)", plain.lower(0, 1, 4), 1);
        Check.same("visits", plain.visits(), 3);
        Check.same("greatest(2)", plain.greatest(2), 4);
        Check.same("greatest(3) caught up", plain.greatest(3), 5);
        Check.same("noted(3) caught up", plain.noted(3), 7);
        Check.same("greatest(1)", plain.greatest(1), 5);
        Check.same("second(1)", plain.second(1), 4);
        Check.same("noted(1)", plain.noted(1), 14);
        Check.same("lagging", plain.lagging(), 2);
    }

    private static void pressesNothing() {
        PressedPlains plain = Plains.of(8, 3, 8, 2);
        Check.same("lower(0, 3, 8)", plain.lower(0, 3, 8), 0);
        Check.same("visits", plain.visits(), 1);
        Check.same("lower(0, 3, 1000)", plain.lower(0, 3, 1000), 0);
        Check.same("lower(1, 1, 3)", plain.lower(1, 1, 3), 0);
        Check.same("visits of a part", plain.visits(), 5);
        Check.same("noted(1)", plain.noted(1), 21);
        plain.layOut(4, 10);
        Check.same("lower(0, 1, 10) of the flat", plain.lower(0, 1, 10), 0);
        Check.same("visits of the flat", plain.visits(), 1);
    }

    private static void pressesOneColumn() {
        PressedPlains plain = Plains.of(8, 3, 8, 2);
        Check.same("lower(3, 3, 0)", plain.lower(3, 3, 0), 2);
        Check.same("second(7)", plain.second(7), -1);
        Check.same("greatest(7)", plain.greatest(7), 0);
        Check.same("noted(7)", plain.noted(7), 0);
        PressedPlains single = new PressedPlains();
        single.pile(0, 9);
        Check.same("lower(0, 0, 0)", single.lower(0, 0, 0), 9);
        Check.same("lower(0, 0, 0) again", single.lower(0, 0, 0), 0);
    }
}
