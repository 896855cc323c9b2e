/** The edges of piling, and of the promise 3. */
public final class PileEdgesTest {
    public static void main(String[] args) {
        leastAndMostEarth();
        heightThen();
        asHighAsCanBe();
        higherThanCanBe();
        heightUnderALaggingEntry();
        entriesComeTo();
        entriesOfUnevenDepth();
        bothBelowCatchUp();
        columnItself();
        toldAnewOnTheWayBack();
        noSuchColumn();
        earthOutOfRange();
        Check.end();
    }

    private static void leastAndMostEarth() {
        Check.sentence("1 to 1000", "the earth of a pile");
        PressedPlains plain = Plains.flat(2, 0);
        Check.same("the least", plain.pile(0, 1), 1);
        Check.same("the most", plain.pile(1, 1000), 1000);
    }

    private static void heightThen() {
        Check.sentence("Returns the height of the column then");
        PressedPlains plain = Plains.flat(2, 10);
        Check.same("once", plain.pile(1, 5), 15);
        Check.same("twice", plain.pile(1, 1), 16);
        plain.lower(1, 1, 0);
        Check.same("from nothing", plain.pile(1, 2), 2);
        Check.same("beside it", plain.heightOfColumn(0), 10);
    }

    private static void asHighAsCanBe() {
        Check.sentence("if the column would be higher than 1000", "which 1000 is not");
        PressedPlains plain = Plains.of(999, 1, 0);
        Check.same("by the last grain", plain.pile(0, 1), 1000);
        Check.same("by 999", plain.pile(1, 999), 1000);
        Check.same("at once", plain.pile(2, 1000), 1000);
        BookEntry.same(plain, 1, 1000, -1, 3, 3000);
    }

    private static void higherThanCanBe() {
        Check.sentence("Throws `IllegalStateException` if the column would be higher than 1000");
        PressedPlains plain = Plains.of(999, 1, 1000);
        plain.lower(2, 2, 1000);
        Refused.illegalState("by a grain", plain, () -> plain.pile(0, 2));
        Refused.illegalState("by the most earth", plain, () -> plain.pile(1, 1000));
        Refused.illegalState("from the top", plain, () -> plain.pile(2, 1));
        Refused.illegalState("to 2000", plain, () -> plain.pile(2, 1000));
        Check.same("its ceiling is still known", plain.ceilingOver(2), 1000);
    }

    private static void heightUnderALaggingEntry() {
        Check.sentence("if the column would be higher than 1000", "though its entry lags");
        PressedPlains plain = Plains.flat(2, 1000);
        plain.lower(0, 1, 999);
        Check.same("the entry's own note", plain.greatest(2), 1000);
        Check.same("the grain that was pressed away", plain.pile(0, 1), 1000);
        Refused.illegalState("one more", plain, () -> plain.pile(0, 1));
        Refused.illegalState("two on the other", plain, () -> plain.pile(1, 2));
        Check.same("one on the other", plain.pile(1, 1), 1000);
    }

    private static void entriesComeTo() {
        Check.sentence("comes to the entry 1 and to all entries with this column below it");
        PressedPlains plain = Plains.flat(1, 0);
        plain.pile(0, 1);
        Check.same("one column", plain.visits(), 1);
        plain.layOut(2, 0);
        plain.pile(1, 1);
        Check.same("two columns", plain.visits(), 2);
        plain.layOut(64, 0);
        for (int column = 0; column < 64; column++) {
            plain.pile(column, 1);
            Check.same("64 columns, " + column, plain.visits(), 7);
        }
    }

    private static void entriesOfUnevenDepth() {
        Check.sentence("all entries with this column below it", "more for some than for others");
        PressedPlains plain = Plains.flat(33, 0);
        for (int column = 0; column < 33; column++) {
            plain.pile(column, 1);
            Check.same("33 columns, " + column, plain.visits(), column < 2 ? 7 : 6);
        }
        plain.layOut(3, 0);
        plain.pile(1, 1);
        Check.same("the second of 3", plain.visits(), 3);
        plain.pile(2, 1);
        Check.same("the last of 3", plain.visits(), 2);
    }

    private static void bothBelowCatchUp() {
        Check.sentence("in each of them with more than one column the two below catch up");
        PressedPlains plain = Plains.of(8, 3, 8, 2, 8, 1, 8, 0);
        plain.lower(0, 7, 6);
        plain.pile(7, 1);
        // Entries 2, 6 and 14 stand beside the way to column 7; those below 2 and 6 are let be.
        BookEntry.same(plain, 2, 6, 3, 2, 17);
        BookEntry.same(plain, 6, 6, 1, 1, 7);
        BookEntry.same(plain, 14, 6, -1, 1, 6);
        BookEntry.same(plain, 4, 8, 3, 1, 11);
        BookEntry.same(plain, 12, 8, -1, 1, 8);
        Check.same("lagging", plain.lagging(), 3);
    }

    private static void columnItself() {
        Check.sentence(
                "For the column itself the greatest height and the sum become its new height");
        PressedPlains plain = Plains.lagging();
        plain.pile(0, 1);
        BookEntry.same(plain, 4, 6, -1, 1, 6);
        plain.pile(1, 1);
        BookEntry.same(plain, 5, 4, -1, 1, 4);
        PressedPlains single = Plains.of(1000);
        BookEntry.same(single, 1, 1000, -1, 1, 1000);
    }

    private static void toldAnewOnTheWayBack() {
        Check.sentence("and it is told anew on the way back");
        PressedPlains plain = Plains.lagging();
        plain.pile(1, 2);
        BookEntry.same(plain, 2, 5, -1, 2, 10);
        BookEntry.same(plain, 1, 5, 2, 3, 17);
        plain.pile(1, 1);
        BookEntry.same(plain, 2, 6, 5, 1, 11);
        BookEntry.same(plain, 1, 6, 5, 1, 18);
    }

    private static void noSuchColumn() {
        Check.sentence("Throws `IndexOutOfBoundsException` if there is no such column", "pile");
        for (int columns : new int[] {1, 2, 63, 64}) {
            PressedPlains plain = Plains.flat(columns, 3);
            for (int column : Refused.beside(0, columns - 1)) {
                Refused.outOfBounds("on " + column, plain, () -> plain.pile(column, 1));
            }
        }
    }

    private static void earthOutOfRange() {
        Check.sentence("Throws `IllegalArgumentException` if earth is out of range", "pile");
        PressedPlains plain = Plains.lagging();
        for (int earth : Refused.beside(1, 1000)) {
            Refused.illegalArgument("of " + earth, plain, () -> plain.pile(1, earth));
        }
    }
}
