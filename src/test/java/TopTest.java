/** Promise 7, and the term "asking for the greatest height". */
public final class TopTest {
    public static void main(String[] args) {
        tellsEverySpan();
        catchesUpOnTheWay();
        Check.end();
    }

    private static void tellsEverySpan() {
        int[] heights = {5, 0, 9, 3, 8, 8, 1};
        PressedPlains plain = Plains.of(heights);
        for (int from = 0; from < heights.length; from++) {
            int top = 0;
            for (int to = from; to < heights.length; to++) {
                top = Math.max(top, heights[to]);
                Check.same("top(" + from + ", " + to + ")", plain.top(from, to), top);
            }
        }
        plain.layOut(64, 0);
        Check.same("nothing anywhere", plain.top(3, 40), 0);
        plain.layOut(64, 1000);
        Check.same("as high as can be", plain.top(3, 40), 1000);
    }

    private static void catchesUpOnTheWay() {
        PressedPlains plain = Plains.of(8, 3, 8, 2);
        plain.lower(0, 3, 5);
        Check.same("top(0, 3)", plain.top(0, 3), 5);
        Check.same("visits of the whole", plain.visits(), 1);
        Check.same("top(0, 1)", plain.top(0, 1), 5);
        Check.same("visits of a half", plain.visits(), 3);
        Check.same("lagging after a half", plain.lagging(), 2);
        Check.same("top(1, 2)", plain.top(1, 2), 5);
        Check.same("visits of two parts", plain.visits(), 7);
        Check.same("lagging after two parts", plain.lagging(), 0);
        Check.same("top(3, 3)", plain.top(3, 3), 2);
        Check.same("visits of a column", plain.visits(), 5);
    }
}
