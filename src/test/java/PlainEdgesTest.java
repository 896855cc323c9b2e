/** The edges of "What it is", of the plain and its ranges, and of the promises 1, 2 and 13. */
public final class PlainEdgesTest {
    public static void main(String[] args) {
        lastCalls();
        fewestAndMostColumns();
        columnsFromNought();
        leastAndGreatestHeight();
        atFirst();
        laidOutLevel();
        forgottenCeilings();
        forgottenVisits();
        forgottenPressing();
        forgottenLag();
        forgottenWidth();
        earthOfThePlain();
        columnsOutOfRange();
        heightOutOfRange();
        numberOfColumns();
        Check.end();
    }

    private static void lastCalls() {
        Check.sentence("An object is used for at most 512 calls after it has been made");
        PressedPlains plain = Plains.flat(64, 1000);
        for (int call = 2; call <= 511; call++) {
            plain.lower(0, 63, 1001 - call);
        }
        Check.same("call 512", plain.pressedAway(), 510 * 64);

        plain = Plains.flat(64, 1000);
        for (int call = 2; call <= 510; call += 3) {
            plain.lower(0, 63, 0);
            plain.pile(call % 64, 1000);
            plain.earth(1, 62);
        }
        Check.same("call 512 of the dearest ones", plain.lower(0, 63, 0), 1000);
    }

    private static void fewestAndMostColumns() {
        Check.sentence("The plain has 1 to 64 columns");
        PressedPlains plain = new PressedPlains();
        Check.same("the fewest", plain.layOut(1, 3), 3);
        Check.same("one column", plain.columns(), 1);
        Refused.illegalArgument("none", plain, () -> plain.layOut(0, 3));
        Check.same("the most", plain.layOut(64, 3), 192);
        Check.same("64 columns", plain.columns(), 64);
        Refused.illegalArgument("65", plain, () -> plain.layOut(65, 3));
    }

    private static void columnsFromNought() {
        Check.sentence("numbered from 0");
        for (int columns : new int[] {1, 2, 33, 63, 64}) {
            PressedPlains plain = Plains.flat(columns, 7);
            int last = columns - 1;
            Check.same("pile on the first", plain.pile(0, 1), 8);
            Check.same("pile on the last", plain.pile(last, 2), columns == 1 ? 10 : 9);
            Check.same("kept of the first", plain.heightOfColumn(0), columns == 1 ? 10 : 8);
            Check.same("kept of the last", plain.heightOfColumn(last), columns == 1 ? 10 : 9);
            Check.outOfBounds("before the first", () -> plain.heightOfColumn(-1));
            Check.outOfBounds("after the last", () -> plain.heightOfColumn(columns));
        }
    }

    private static void leastAndGreatestHeight() {
        Check.sentence("each 0 to 1000 high");
        PressedPlains plain = Plains.flat(2, 0);
        Check.same("laid out flat", plain.height(1), 0);
        Check.same("piled from the least to the greatest", plain.pile(1, 1000), 1000);
        Refused.illegalState("higher", plain, () -> plain.pile(1, 1));
        Check.same("pressed back to the least", plain.lower(1, 1, 0), 1000);
        Check.same("the least again", plain.height(1), 0);
        plain.layOut(2, 1000);
        Check.same("laid out as high as can be", plain.height(1), 1000);
    }

    private static void atFirst() {
        Check.sentence("at first it has one column, which is 0 high");
        PressedPlains plain = new PressedPlains();
        Check.same("columns", plain.columns(), 1);
        Check.same("height", plain.height(0), 0);
        BookEntry.same(plain, 1, 0, -1, 1, 0);
        BookEntry.isNone(plain, 2);
        Refused.outOfBounds("pile(1, 1)", plain, () -> plain.pile(1, 1));
        Check.same("as if laid out", Snapshot.of(plain), Snapshot.of(Plains.flat(1, 0)));
    }

    private static void laidOutLevel() {
        Check.sentence("all columns of which are as high as one another");
        for (int columns = 1; columns <= 64; columns++) {
            PressedPlains plain = Plains.flat(columns, 4);
            for (int column = 0; column < columns; column++) {
                Check.same("height", plain.height(column), 4);
                Check.same("kept", plain.heightOfColumn(column), 4);
            }
            BookEntry.same(plain, 1, 4, -1, columns, 4 * columns);
        }
    }

    private static void forgottenCeilings() {
        Check.sentence("nothing is known of what was", "ceilings");
        PressedPlains plain = Plains.flat(3, 5);
        plain.lower(0, 2, 4);
        plain.layOut(3, 5);
        for (int column = 0; column < 3; column++) {
            int over = column;
            Refused.noSuchElement("ceilingOver", plain, () -> plain.ceilingOver(over));
        }
        plain.lower(0, 2, 9);
        Check.same("a higher one since", plain.ceilingOver(1), 9);
        plain.layOut(1, 5);
        plain.layOut(3, 5);
        Refused.noSuchElement("while the plain was narrow", plain, () -> plain.ceilingOver(2));
    }

    private static void forgottenVisits() {
        Check.sentence("nothing is known of what was", "visits");
        PressedPlains plain = Plains.lagging();
        plain.layOut(4, 5);
        Check.same("visits", plain.visits(), 0);
        Check.same("allVisits", plain.allVisits(), 0);
        Check.same("meanVisits", plain.meanVisits(), 0.0);
    }

    private static void forgottenPressing() {
        Check.sentence("nothing is known of what was", "earth pressed away and piled up");
        PressedPlains plain = Plains.lagging();
        plain.layOut(4, 5);
        Check.same("pressedAway", plain.pressedAway(), 0);
        Check.same("pressedAwayByRest", plain.pressedAwayByRest(), 0);
    }

    private static void forgottenLag() {
        Check.sentence("nothing is known of what was", "what the entries noted");
        PressedPlains plain = Plains.lagging();
        plain.layOut(4, 5);
        Check.same("lagging", plain.lagging(), 0);
        Check.same("all of it", Snapshot.of(plain), Snapshot.of(Plains.flat(4, 5)));
        plain.layOut(4, 5);
        Check.same("the same once more", Snapshot.of(plain), Snapshot.of(Plains.flat(4, 5)));
    }

    private static void forgottenWidth() {
        Check.sentence("nothing is known of what was", "the columns");
        PressedPlains plain = Plains.flat(64, 1000);
        plain.lower(1, 63, 1);
        plain.pile(63, 999);
        plain.layOut(1, 0);
        Check.same("from the widest", Snapshot.of(plain), Snapshot.of(new PressedPlains()));
        plain.layOut(64, 2);
        Check.same("to the widest", Snapshot.of(plain), Snapshot.of(Plains.flat(64, 2)));
        plain.layOut(33, 2);
        Check.same("between", Snapshot.of(plain), Snapshot.of(Plains.flat(33, 2)));
    }

    private static void earthOfThePlain() {
        Check.sentence("Returns the earth of the plain");
        PressedPlains plain = new PressedPlains();
        Check.same("the least", plain.layOut(1, 0), 0);
        Check.same("many columns of nothing", plain.layOut(64, 0), 0);
        Check.same("one grain", plain.layOut(1, 1), 1);
        Check.same("one high column", plain.layOut(1, 1000), 1000);
        Check.same("a grain each", plain.layOut(64, 1), 64);
        Check.same("the most", plain.layOut(64, 1000), 64000);
    }

    private static void columnsOutOfRange() {
        Check.sentence(
                "Throws `IllegalArgumentException` if columns or height is out of range",
                "columns");
        PressedPlains plain = Plains.lagging();
        for (int columns : Refused.beside(1, 64)) {
            Refused.illegalArgument("of " + columns, plain, () -> plain.layOut(columns, 5));
            Refused.illegalArgument("both wrong", plain, () -> plain.layOut(columns, -1));
        }
    }

    private static void heightOutOfRange() {
        Check.sentence(
                "Throws `IllegalArgumentException` if columns or height is out of range",
                "height");
        PressedPlains plain = Plains.lagging();
        for (int height : Refused.beside(0, 1000)) {
            Refused.illegalArgument("narrow, " + height, plain, () -> plain.layOut(1, height));
            Refused.illegalArgument("wide, " + height, plain, () -> plain.layOut(64, height));
        }
    }

    private static void numberOfColumns() {
        Check.sentence("Returns the number of columns");
        PressedPlains plain = new PressedPlains();
        Check.same("at first", plain.columns(), 1);
        for (int columns = 64; columns >= 1; columns--) {
            plain.layOut(columns, 0);
            Check.same("laid out", plain.columns(), columns);
        }
        plain.layOut(5, 5);
        Check.illegalArgument("layOut(6, 1001)", () -> plain.layOut(6, 1001));
        Check.same("after a refused call", plain.columns(), 5);
    }
}
