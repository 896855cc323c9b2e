/** Promises 10, 11 and 12. */
public final class CeilingTest {
    public static void main(String[] args) {
        tellsWhatWouldBePressed();
        findsTheHighestCeiling();
        tellsTheLowestCeiling();
        Check.end();
    }

    private static void tellsWhatWouldBePressed() {
        PressedPlains plain = Plains.of(8, 3, 8, 2);
        plain.lower(0, 3, 6);
        String before = Snapshot.of(plain);
        Check.same("wouldPress(0, 3, 6)", plain.wouldPress(0, 3, 6), 0);
        Check.same("wouldPress(0, 3, 5)", plain.wouldPress(0, 3, 5), 2);
        Check.same("wouldPress(0, 3, 2)", plain.wouldPress(0, 3, 2), 9);
        Check.same("wouldPress(0, 3, 0)", plain.wouldPress(0, 3, 0), 17);
        Check.same("wouldPress(1, 1, 1)", plain.wouldPress(1, 1, 1), 2);
        Check.same("wouldPress(1, 2, 4)", plain.wouldPress(1, 2, 4), 2);
        Check.same("wouldPress(0, 3, 1000)", plain.wouldPress(0, 3, 1000), 0);
        Check.same("nothing changes", Snapshot.of(plain), before);
    }

    private static void findsTheHighestCeiling() {
        PressedPlains plain = Plains.of(8, 3, 8, 2);
        plain.lower(0, 3, 6);
        String before = Snapshot.of(plain);
        // 6 3 6 2: a ceiling of 5 presses 2, of 4 4, of 3 6, of 2 9, of 1 13, of 0 17.
        int[] due = {5, 5, 4, 4, 3, 3, 2, 2, 2, 1, 1, 1, 1, 0, 0, 0, 0};
        for (int earth = 1; earth <= due.length; earth++) {
            Check.same("for " + earth, plain.ceilingFor(0, 3, earth), due[earth - 1]);
        }
        Check.noSuchElement("for 18", () -> plain.ceilingFor(0, 3, 18));
        Check.same("of a part", plain.ceilingFor(1, 1, 2), 1);
        Check.noSuchElement("too much of a part", () -> plain.ceilingFor(1, 1, 4));
        Check.same("nothing changes", Snapshot.of(plain), before);
    }

    private static void tellsTheLowestCeiling() {
        PressedPlains plain = new PressedPlains();
        plain.layOut(4, 10);
        plain.lower(1, 2, 800);
        Check.same("one that pressed nothing", plain.ceilingOver(1), 800);
        plain.lower(0, 2, 9);
        Check.same("a lower one", plain.ceilingOver(2), 9);
        plain.lower(2, 3, 12);
        Check.same("a higher one later", plain.ceilingOver(2), 9);
        Check.same("only the higher one", plain.ceilingOver(3), 12);
        plain.lower(0, 3, 9);
        Check.same("the same again", plain.ceilingOver(0), 9);
        plain.pile(2, 1);
        Check.noSuchElement("after piling", () -> plain.ceilingOver(2));
        Check.same("beside the pile", plain.ceilingOver(1), 9);
        plain.lower(2, 2, 1000);
        Check.same("since the pile", plain.ceilingOver(2), 1000);
        plain.lower(2, 2, 0);
        Check.same("the lowest that can be", plain.ceilingOver(2), 0);
        plain.layOut(4, 10);
        Check.noSuchElement("after laying out", () -> plain.ceilingOver(2));
    }
}
