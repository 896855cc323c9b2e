/** The edges of asking, and of the promises 5 to 9. */
public final class AskEdgesTest {
    private interface ColumnCall {
        int ask(PressedPlains plain, int column);
    }

    public static void main(String[] args) {
        noneGivesNothing();
        noneIsLeftOut();
        wholeGivesWhatIsNoted();
        oneColumnOfOne();
        oneColumnOfMany();
        allButOneColumn();
        mostEntries();
        caughtUpBothBelow();
        sumOfHeights();
        sumByColumns();
        sumsWhileAllLags();
        greatestOfSpan();
        leastOfTheGreatest();
        withoutComingToAnEntry();
        keptBesideTheBook();
        SpanEdges.noSuchColumn("earth", PressedPlains::earth);
        SpanEdges.noSuchColumn("earthByColumns", PressedPlains::earthByColumns);
        SpanEdges.noSuchColumn("top", PressedPlains::top);
        SpanEdges.toBeforeFrom("earth", PressedPlains::earth);
        SpanEdges.toBeforeFrom("earthByColumns", PressedPlains::earthByColumns);
        SpanEdges.toBeforeFrom("top", PressedPlains::top);
        noSuchColumn("height", PressedPlains::height);
        noSuchColumn("heightOfColumn", PressedPlains::heightOfColumn);
        Check.end();
    }

    private static void noneGivesNothing() {
        Check.sentence("one that has none of these columns gives nothing", "to a sum 0");
        PressedPlains plain = Plains.of(0, 1000, 0, 1000);
        Check.same("beside much earth", plain.earth(0, 0), 0);
        Check.same("between", plain.earth(2, 2), 0);
        Check.same("the next column", plain.earth(3, 3), 1000);
    }

    private static void noneIsLeftOut() {
        Check.sentence("for a greatest height it is left out");
        PressedPlains plain = Plains.of(0, 1000, 0, 1000);
        Check.same("0 beside 1000", plain.top(0, 0), 0);
        Check.same("0 between", plain.top(2, 2), 0);
        Check.same("with the next column", plain.top(2, 3), 1000);
        Check.same("of nothing but 0", Plains.flat(64, 0).top(1, 62), 0);
    }

    private static void wholeGivesWhatIsNoted() {
        Check.sentence("one that has none but these gives what it has noted");
        PressedPlains plain = Plains.lagging();
        Check.same("earth(0, 3)", plain.earth(0, 3), 15);
        Check.same("visits", plain.visits(), 1);
        Check.same("top(0, 3)", plain.top(0, 3), 5);
        Check.same("visits of top", plain.visits(), 1);
        Check.same("nothing caught up", plain.lagging(), 2);
        Check.same("earth(2, 3)", plain.earth(2, 3), 7);
        Check.same("visits of a half", plain.visits(), 3);
    }

    private static void oneColumnOfOne() {
        Check.sentence("one that has none but these gives what it has noted", "the only column");
        PressedPlains plain = Plains.of(1000);
        Check.same("earth", plain.earth(0, 0), 1000);
        Check.same("visits", plain.visits(), 1);
        Check.same("by columns", plain.earthByColumns(0, 0), 1000);
        Check.same("top", plain.top(0, 0), 1000);
        Check.same("visits of top", plain.visits(), 1);
    }

    private static void oneColumnOfMany() {
        Check.sentence("a column, not less than from", "but as great as it");
        PressedPlains plain = Plains.flat(64, 2);
        for (int column = 0; column < 64; column++) {
            Check.same("earth", plain.earth(column, column), 2);
            // On each of six steps down both below an entry are come to.
            Check.same("visits", plain.visits(), 13);
            Check.same("top", plain.top(column, column), 2);
            Check.same("visits of top", plain.visits(), 13);
            Check.same("by columns", plain.earthByColumns(column, column), 2);
        }
    }

    private static void allButOneColumn() {
        Check.sentence("with any other one the two below catch up, and the question comes to both");
        PressedPlains plain = Plains.of(1, 2, 4, 8);
        Check.same("all but the last", plain.earth(0, 2), 7);
        Check.same("visits", plain.visits(), 5);
        Check.same("all but the first", plain.earth(1, 3), 14);
        Check.same("visits then", plain.visits(), 5);
        Check.same("all but both", plain.earth(1, 2), 6);
        Check.same("visits of two parts", plain.visits(), 7);
        Check.same("top of all but the last", plain.top(0, 2), 4);
        Check.same("visits of top", plain.visits(), 5);
        Check.same("top of all but both", plain.top(1, 2), 4);
        Check.same("visits of top then", plain.visits(), 7);
    }

    private static void mostEntries() {
        Check.sentence("the question comes to both", "four on each step at most");
        PressedPlains plain = Plains.flat(64, 1);
        Check.same("all but both ends", plain.earth(1, 62), 62);
        Check.same("visits", plain.visits(), 23);
        Check.same("the two in the middle", plain.top(31, 32), 1);
        Check.same("visits of the middle", plain.visits(), 23);
    }

    private static void caughtUpBothBelow() {
        Check.sentence("the two below catch up", "also one that has none of the columns");
        PressedPlains plain = Plains.lagging();
        plain.earth(0, 1);
        BookEntry.same(plain, 3, 5, 2, 1, 7);
        plain = Plains.lagging();
        plain.top(2, 3);
        BookEntry.same(plain, 2, 5, 3, 1, 8);
        plain.top(3, 3);
        BookEntry.same(plain, 6, 5, -1, 1, 5);
        BookEntry.same(plain, 4, 8, -1, 1, 8);
    }

    private static void sumOfHeights() {
        Check.sentence("Returns the sum of their heights", "earth");
        PressedPlains plain = Plains.flat(64, 1000);
        Check.same("the most", plain.earth(0, 63), 64000);
        Check.same("all but one", plain.earth(1, 63), 63000);
        Check.same("two parts of a half", plain.earth(31, 32), 2000);
        plain.layOut(64, 0);
        Check.same("the least", plain.earth(0, 63), 0);
        Check.same("the least of a part", plain.earth(5, 59), 0);
    }

    private static void sumByColumns() {
        Check.sentence("Tells the same, column by column, without the book");
        PressedPlains plain = Plains.flat(64, 1000);
        Check.same("the most", plain.earthByColumns(0, 63), 64000);
        Check.same("all but one", plain.earthByColumns(1, 63), 63000);
        Check.same("nothing was come to", plain.allVisits(), 0);
        plain = Plains.lagging();
        String before = Snapshot.of(plain);
        Check.same("both ends of a span", plain.earthByColumns(1, 2), 8);
        Check.same("the book", Snapshot.of(plain), before);
    }

    private static void sumsWhileAllLags() {
        Check.sentence("Tells the same", "whatever lags");
        PressedPlains plain = Plains.of(9, 1, 8, 2, 7, 3, 6);
        int[] ceilings = {8, 7, 5, 4, 3, 1, 0};
        for (int ceiling : ceilings) {
            plain.lower(0, 6, ceiling);
            for (int from = 0; from < 7; from++) {
                int due = plain.earthByColumns(from, 6);
                Check.same("from " + from + " under " + ceiling, plain.earth(from, 6), due);
            }
        }
        Check.same("nothing is left", plain.earth(0, 6), 0);
    }

    private static void greatestOfSpan() {
        Check.sentence("Asks the book for the greatest height of the columns", "top");
        PressedPlains plain = Plains.of(1000, 0, 999, 1000);
        Check.same("the first has it", plain.top(0, 2), 1000);
        Check.same("the last has it", plain.top(1, 3), 1000);
        Check.same("both ends left out", plain.top(1, 2), 999);
        plain.lower(0, 3, 0);
        Check.same("all pressed flat", plain.top(1, 2), 0);
    }

    private static void leastOfTheGreatest() {
        Check.sentence(
                "the least of the greatest heights that the entries with this column have noted",
                "height");
        PressedPlains plain = Plains.of(8, 3, 8, 2);
        plain.lower(0, 3, 5);
        Check.same("the uppermost has it", plain.height(0), 5);
        Check.same("the column has it", plain.height(1), 3);
        plain.lower(0, 1, 4);
        Check.same("the one between has it", plain.height(0), 4);
        Check.same("beside it", plain.height(2), 5);
        Check.same("the last", plain.height(3), 2);
        Check.same("one column", Plains.of(1000).height(0), 1000);
        Check.same("nothing", Plains.flat(64, 0).height(63), 0);
    }

    private static void withoutComingToAnEntry() {
        Check.sentence("Tells the height of a column by the book without coming to any entry");
        PressedPlains plain = Plains.lagging();
        String before = Snapshot.of(plain);
        for (int column = 0; column < 4; column++) {
            plain.height(column);
            plain.heightOfColumn(column);
        }
        Check.same("the book", Snapshot.of(plain), before);
    }

    private static void keptBesideTheBook() {
        Check.sentence("Tells the height of a column as it is kept beside the book");
        PressedPlains plain = Plains.of(1000, 0, 999);
        Check.same("the greatest", plain.heightOfColumn(0), 1000);
        Check.same("the least", plain.heightOfColumn(1), 0);
        plain.lower(0, 1, 999);
        Check.same("pressed", plain.heightOfColumn(0), 999);
        Check.same("lower than the ceiling", plain.heightOfColumn(1), 0);
        Check.same("beside the ceiling", plain.heightOfColumn(2), 999);
        plain.lower(0, 2, 0);
        Check.same("pressed flat", plain.heightOfColumn(2), 0);
    }

    private static void noSuchColumn(String name, ColumnCall call) {
        Check.sentence("Throws `IndexOutOfBoundsException` if there is no such column", name);
        for (int columns : new int[] {1, 4, 63, 64}) {
            PressedPlains plain = Plains.flat(columns, 3);
            for (int column : Refused.beside(0, columns - 1)) {
                Refused.outOfBounds(name + " " + column, plain, () -> call.ask(plain, column));
            }
        }
    }
}
