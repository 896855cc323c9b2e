/** Promises 10, 11 and 12. */
public final class CeilingTest {
    public static void main(String[] args) {
        tellsWhatWouldBePressed();
        wouldPressThrowsInOrder();
        findsTheHighestCeiling();
        findsAtTheEdges();
        ceilingForThrowsInOrder();
        tellsTheLowestCeiling();
        ceilingOverThrowsInOrder();
        Check.end();
    }

    private static void tellsWhatWouldBePressed() {
        PressedPlains plain = Plains.of(8, 3, 8, 2);
        plain.lower(0, 3, 6);
        String before = Snapshot.of(plain);
        Check.same("wouldPress(0, 3, 6)", plain.wouldPress(0, 3, 6), 0);
        Check.same("wouldPress(0, 3, 5)", plain.wouldPress(0, 3, 5), 2);
        Check.same("wouldPress(0, 3, 2)", plain.wouldPress(0, 3, 2), 9);
        Check.same("wouldPress(0, 3, 0)", plain.wouldPress(0, 3, 0), 17);
        Check.same("wouldPress(1, 1, 1)", plain.wouldPress(1, 1, 1), 2);
        Check.same("wouldPress(1, 2, 4)", plain.wouldPress(1, 2, 4), 2);
        Check.same("wouldPress(0, 3, 1000)", plain.wouldPress(0, 3, 1000), 0);
        Check.same("nothing changes", Snapshot.of(plain), before);
    }

    private static void wouldPressThrowsInOrder() {
        PressedPlains plain = Plains.of(8, 3, 8, 2);
        int[] wrongColumns = {-1, 4, 64, Integer.MIN_VALUE, Integer.MAX_VALUE};
        for (int column : wrongColumns) {
            Check.outOfBounds("would from " + column, () -> plain.wouldPress(column, 1, 4));
            Check.outOfBounds("would to " + column, () -> plain.wouldPress(3, column, -1));
        }
        Check.illegalArgument("wouldPress(2, 1, 4)", () -> plain.wouldPress(2, 1, 4));
        int[] wrongCeilings = {-1, 1001, Integer.MIN_VALUE, Integer.MAX_VALUE};
        for (int ceiling : wrongCeilings) {
            Check.illegalArgument("would at " + ceiling, () -> plain.wouldPress(0, 3, ceiling));
        }
    }

    private static void findsTheHighestCeiling() {
        PressedPlains plain = Plains.of(8, 3, 8, 2);
        plain.lower(0, 3, 6);
        String before = Snapshot.of(plain);
        // 6 3 6 2: a ceiling of 5 presses 2, of 4 4, of 3 6, of 2 9, of 1 13, of 0 17.
        int[] due = {5, 5, 4, 4, 3, 3, 2, 2, 2, 1, 1, 1, 1, 0, 0, 0, 0};
        for (int earth = 1; earth <= due.length; earth++) {
            Check.same("for " + earth, plain.ceilingFor(0, 3, earth), due[earth - 1]);
        }
        Check.noSuchElement("for 18", () -> plain.ceilingFor(0, 3, 18));
        Check.same("of a part", plain.ceilingFor(1, 1, 2), 1);
        Check.noSuchElement("too much of a part", () -> plain.ceilingFor(1, 1, 4));
        Check.same("nothing changes", Snapshot.of(plain), before);
    }

    private static void findsAtTheEdges() {
        PressedPlains plain = new PressedPlains();
        Check.noSuchElement("without earth", () -> plain.ceilingFor(0, 0, 1));
        plain.layOut(64, 1000);
        Check.same("the least", plain.ceilingFor(0, 63, 1), 999);
        Check.same("64", plain.ceilingFor(0, 63, 64), 999);
        Check.same("65", plain.ceilingFor(0, 63, 65), 998);
        Check.same("63936", plain.ceilingFor(0, 63, 63936), 1);
        Check.same("all but one", plain.ceilingFor(0, 63, 63999), 0);
        Check.same("all", plain.ceilingFor(0, 63, 64000), 0);
        Check.noSuchElement("a column too few", () -> plain.ceilingFor(0, 62, 64000));
        for (int earth = 1; earth <= 1000; earth++) {
            Check.same("one column", plain.ceilingFor(7, 7, earth), 1000L - earth);
        }
    }

    private static void ceilingForThrowsInOrder() {
        PressedPlains plain = Plains.of(8, 3, 8, 2);
        String before = Snapshot.of(plain);
        int[] wrongColumns = {-1, 4, 64, Integer.MIN_VALUE, Integer.MAX_VALUE};
        for (int column : wrongColumns) {
            Check.outOfBounds("for from " + column, () -> plain.ceilingFor(column, 1, 4));
            Check.outOfBounds("for to " + column, () -> plain.ceilingFor(3, column, 0));
        }
        Check.illegalArgument("ceilingFor(2, 1, 60000)", () -> plain.ceilingFor(2, 1, 60000));
        int[] wrongEarth = {0, -1, 64001, Integer.MIN_VALUE, Integer.MAX_VALUE};
        for (int earth : wrongEarth) {
            Check.illegalArgument("for " + earth, () -> plain.ceilingFor(0, 3, earth));
        }
        Check.same("after refusals", Snapshot.of(plain), before);
    }

    private static void tellsTheLowestCeiling() {
        PressedPlains plain = new PressedPlains();
        plain.layOut(4, 10);
        plain.lower(1, 2, 800);
        Check.same("one that pressed nothing", plain.ceilingOver(1), 800);
        plain.lower(0, 2, 9);
        Check.same("a lower one", plain.ceilingOver(2), 9);
        plain.lower(2, 3, 12);
        Check.same("a higher one later", plain.ceilingOver(2), 9);
        Check.same("only the higher one", plain.ceilingOver(3), 12);
        plain.lower(0, 3, 9);
        Check.same("the same again", plain.ceilingOver(0), 9);
        plain.pile(2, 1);
        Check.noSuchElement("after piling", () -> plain.ceilingOver(2));
        Check.same("beside the pile", plain.ceilingOver(1), 9);
        plain.lower(2, 2, 1000);
        Check.same("since the pile", plain.ceilingOver(2), 1000);
        plain.lower(2, 2, 0);
        Check.same("the lowest that can be", plain.ceilingOver(2), 0);
        plain.layOut(4, 10);
        Check.noSuchElement("after laying out", () -> plain.ceilingOver(2));
    }

    private static void ceilingOverThrowsInOrder() {
        PressedPlains plain = Plains.of(1000, 3, 8, 2);
        plain.lower(0, 3, 1000);
        String before = Snapshot.of(plain);
        int[] wrongColumns = {-1, 4, 64, Integer.MIN_VALUE, Integer.MAX_VALUE};
        for (int column : wrongColumns) {
            Check.outOfBounds("over " + column, () -> plain.ceilingOver(column));
        }
        Check.illegalState("a pile that is refused", () -> plain.pile(0, 1));
        Check.same("the ceiling stays", plain.ceilingOver(0), 1000);
        Check.same("after refusals", Snapshot.of(plain), before);
    }
}
