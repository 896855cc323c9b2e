/** Promises 8 and 9. */
public final class HeightTest {
    public static void main(String[] args) {
        tellsEveryColumn();
        isRightWhileEntriesLag();
        Check.end();
    }

    private static void tellsEveryColumn() {
        int[] heights = {5, 0, 9, 3, 8, 8, 1};
        PressedPlains plain = Plains.of(heights);
        for (int column = 0; column < heights.length; column++) {
            Check.same("height(" + column + ")", plain.height(column), heights[column]);
            Check.same("kept", plain.heightOfColumn(column), heights[column]);
        }
    }

    private static void isRightWhileEntriesLag() {
        PressedPlains plain = Plains.of(8, 3, 8, 2);
        plain.lower(0, 3, 7);
        plain.lower(0, 1, 6);
        plain.lower(0, 3, 5);
        String before = Snapshot.of(plain);
        int[] due = {5, 3, 5, 2};
        for (int column = 0; column < due.length; column++) {
            Check.same("height(" + column + ")", plain.height(column), due[column]);
            Check.same("kept", plain.heightOfColumn(column), due[column]);
        }
        Check.same("greatest(4) lags", plain.greatest(4), 8);
        Check.same("after telling heights", Snapshot.of(plain), before);

        plain = Plains.of(8, 3, 9, 2);
        plain.lower(0, 1, 5);
        Check.same("greatest(1)", plain.greatest(1), 9);
        Check.same("greatest(4)", plain.greatest(4), 8);
        Check.same("the least stands between", plain.height(0), 5);
    }
}
