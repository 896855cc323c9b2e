/** A call that throws changes nothing and comes to no entry; no other exception ever comes out. */
public final class ThrowingTest {
    private static final int[] NUMBERS = {
        Integer.MIN_VALUE, Integer.MIN_VALUE + 1, -64001, -1001, -1000, -65, -64, -2, -1, 0, 1, 2, 3,
        4, 6, 7, 8, 63, 64, 65, 127, 128, 129, 999, 1000, 1001, 63999, 64000, 64001, 1 << 30,
        Integer.MAX_VALUE - 1, Integer.MAX_VALUE};

    public static void main(String[] args) {
        PressedPlains plain = Plains.of(1000, 3, 8, 2, 0, 0, 1000);
        plain.lower(1, 6, 6);
        plain.earth(2, 3);
        plain.lower(0, 6, 5);
        plain.pile(0, 995);
        for (int first : NUMBERS) {
            ofOne(plain, first);
            for (int second : NUMBERS) {
                ofTwo(plain, first, second);
                for (int third : NUMBERS) {
                    ofThree(plain, first, second, third);
                }
            }
        }
        Check.end();
    }

    private static boolean isColumn(int column) {
        return 0 <= column && column < 7;
    }

    private static void ofOne(PressedPlains plain, int number) {
        String wrongColumn = isColumn(number) ? "" : "IndexOutOfBoundsException";
        String wrongEntry = 1 <= number && number <= 13 ? "" : "IndexOutOfBoundsException";
        String noCeiling = number == 0 ? "NoSuchElementException" : wrongColumn;
        unchanged("height", plain, wrongColumn, () -> plain.height(number));
        unchanged("heightOfColumn", plain, wrongColumn, () -> plain.heightOfColumn(number));
        unchanged("ceilingOver", plain, noCeiling, () -> plain.ceilingOver(number));
        unchanged("spanOf", plain, wrongEntry, () -> plain.spanOf(number));
        unchanged("greatest", plain, wrongEntry, () -> plain.greatest(number));
        unchanged("second", plain, wrongEntry, () -> plain.second(number));
        unchanged("many", plain, wrongEntry, () -> plain.many(number));
        unchanged("noted", plain, wrongEntry, () -> plain.noted(number));
    }

    private static void ofTwo(PressedPlains plain, int first, int second) {
        String wrongSpan = wrongSpan(first, second);
        unchanged("earthByColumns", plain, wrongSpan, () -> plain.earthByColumns(first, second));
        if (!wrongSpan.isEmpty()) {
            unchanged("earth", plain, wrongSpan, () -> plain.earth(first, second));
            unchanged("top", plain, wrongSpan, () -> plain.top(first, second));
        }
        if (first < 1 || first > 64 || second < 0 || second > 1000) {
            String due = "IllegalArgumentException";
            unchanged("layOut", plain, due, () -> plain.layOut(first, second));
        }
        String wrongPile = wrongPile(plain, first, second);
        if (!wrongPile.isEmpty()) {
            unchanged("pile", plain, wrongPile, () -> plain.pile(first, second));
        }
    }

    private static String wrongPile(PressedPlains plain, int column, int earth) {
        if (!isColumn(column)) {
            return "IndexOutOfBoundsException";
        }
        if (earth < 1 || earth > 1000) {
            return "IllegalArgumentException";
        }
        return plain.heightOfColumn(column) + earth > 1000 ? "IllegalStateException" : "";
    }

    private static void ofThree(PressedPlains plain, int first, int second, int third) {
        String wrongSpan = wrongSpan(first, second);
        String due = !wrongSpan.isEmpty() ? wrongSpan
                : third < 0 || third > 1000 ? "IllegalArgumentException" : "";
        unchanged("wouldPress", plain, due, () -> plain.wouldPress(first, second, third));
        if (!due.isEmpty()) {
            unchanged("lower", plain, due, () -> plain.lower(first, second, third));
        }
        String wrongFor = !wrongSpan.isEmpty() ? wrongSpan
                : third < 1 || third > 64000 ? "IllegalArgumentException"
                : plain.earthByColumns(first, second) < third ? "NoSuchElementException" : "";
        unchanged("ceilingFor", plain, wrongFor, () -> plain.ceilingFor(first, second, third));
    }

    private static String wrongSpan(int first, int second) {
        if (!isColumn(first) || !isColumn(second)) {
            return "IndexOutOfBoundsException";
        }
        return second < first ? "IllegalArgumentException" : "";
    }

    private static void unchanged(String what, PressedPlains plain, String due, Runnable call) {
        String before = Snapshot.of(plain);
        String got = "";
        try {
            call.run();
        } catch (RuntimeException e) {
            got = e.getClass().getSimpleName();
        }
        Check.same(what + " throws", got, due);
        Check.same(what + " left", Snapshot.of(plain), before);
    }
}
