/** Promises 5 and 6, and the term "asking for a sum". */
public final class EarthTest {
    public static void main(String[] args) {
        tellsEverySpan();
        catchesUpOnTheWay();
        countsTheColumnsWithoutTheBook();
        Check.end();
    }

    private static void tellsEverySpan() {
        int[] heights = {5, 0, 9, 3, 8, 8, 1};
        PressedPlains plain = Plains.of(heights);
        for (int from = 0; from < heights.length; from++) {
            int sum = 0;
            for (int to = from; to < heights.length; to++) {
                sum += heights[to];
                Check.same("earth(" + from + ", " + to + ")", plain.earth(from, to), sum);
                Check.same("by columns", plain.earthByColumns(from, to), sum);
            }
        }
        plain.layOut(64, 1000);
        Check.same("most earth", plain.earth(0, 63), 64000);
        Check.same("most earth by columns", plain.earthByColumns(0, 63), 64000);
    }

    private static void catchesUpOnTheWay() {
        PressedPlains plain = Plains.of(8, 3, 8, 2);
        plain.lower(0, 3, 5);
        Check.same("earth(0, 3)", plain.earth(0, 3), 15);
        Check.same("visits of the whole", plain.visits(), 1);
        Check.same("lagging after the whole", plain.lagging(), 2);
        Check.same("earth(0, 1)", plain.earth(0, 1), 8);
        Check.same("visits of a half", plain.visits(), 3);
        Check.same("noted(2)", plain.noted(2), 8);
        Check.same("noted(3)", plain.noted(3), 7);
        Check.same("noted(4) lags", plain.noted(4), 8);
        Check.same("lagging after a half", plain.lagging(), 2);
        Check.same("earth(1, 2)", plain.earth(1, 2), 8);
        Check.same("visits of two parts", plain.visits(), 7);
        Check.same("lagging after two parts", plain.lagging(), 0);
    }

    private static void countsTheColumnsWithoutTheBook() {
        PressedPlains plain = Plains.of(8, 3, 8, 2);
        plain.lower(0, 3, 5);
        String before = Snapshot.of(plain);
        Check.same("earthByColumns(1, 2)", plain.earthByColumns(1, 2), 8);
        Check.same("after asking the columns", Snapshot.of(plain), before);
    }
}
