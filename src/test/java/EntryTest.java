/** Promises 14 to 18. */
public final class EntryTest {
    public static void main(String[] args) {
        tellsSpans();
        hasNoOtherEntries();
        tellsWhatIsNoted();
        Check.end();
    }

    private static void tellsSpans() {
        PressedPlains plain = new PressedPlains();
        plain.layOut(7, 0);
        int[] due = {6, 3, 406, 1, 203, 405, 606, 0, 101, 202, 303, 404, 505};
        for (int entry = 1; entry <= due.length; entry++) {
            Check.same("spanOf(" + entry + ")", plain.spanOf(entry), due[entry - 1]);
        }
        plain.layOut(64, 0);
        Check.same("spanOf(1)", plain.spanOf(1), 63);
        Check.same("spanOf(3)", plain.spanOf(3), 3263);
        Check.same("spanOf(64)", plain.spanOf(64), 0);
        Check.same("spanOf(127)", plain.spanOf(127), 6363);
    }

    /** A plain of n columns has 2n - 1 entries, one for each column and n - 1 above them. */
    private static void hasNoOtherEntries() {
        PressedPlains plain = new PressedPlains();
        for (int columns = 1; columns <= 64; columns++) {
            plain.layOut(columns, 5);
            int found = 0;
            for (int entry = -3; entry < 300; entry++) {
                try {
                    plain.spanOf(entry);
                    found++;
                } catch (IndexOutOfBoundsException e) {
                    continue;
                }
            }
            Check.same("entries of " + columns + " columns", found, 2L * columns - 1);
        }
        plain.layOut(33, 5);
        Check.same("the deepest of 33", plain.spanOf(65), 101);
        Check.outOfBounds("none below one column", () -> plain.spanOf(66));
    }

    private static void tellsWhatIsNoted() {
        PressedPlains plain = Plains.of(8, 3, 8, 2, 0, 0, 0);
        int[][] due = {
            {8, 3, 2, 21}, {8, 3, 2, 21}, {0, -1, 3, 0}, {8, 3, 1, 11}, {8, 2, 1, 10},
            {0, -1, 2, 0}, {0, -1, 1, 0}, {8, -1, 1, 8}, {3, -1, 1, 3}};
        for (int entry = 1; entry <= due.length; entry++) {
            Check.same("greatest(" + entry + ")", plain.greatest(entry), due[entry - 1][0]);
            Check.same("second(" + entry + ")", plain.second(entry), due[entry - 1][1]);
            Check.same("many(" + entry + ")", plain.many(entry), due[entry - 1][2]);
            Check.same("noted(" + entry + ")", plain.noted(entry), due[entry - 1][3]);
        }
        plain.lower(0, 6, 5);
        Check.same("pressed: greatest(1)", plain.greatest(1), 5);
        Check.same("pressed: second(1)", plain.second(1), 3);
        Check.same("pressed: many(1)", plain.many(1), 2);
        Check.same("pressed: noted(1)", plain.noted(1), 15);
        Check.same("lags: greatest(2)", plain.greatest(2), 8);
        Check.same("lags: noted(2)", plain.noted(2), 21);
        Check.same("visits by looking", plain.visits(), 1);
    }
}
