/** The edges of the book and its entries, and of the promises 14 to 19. */
public final class BookEdgesTest {
    private interface EntryCall {
        int ask(PressedPlains plain, int entry);
    }

    public static void main(String[] args) {
        entryForAll();
        partsOfOneColumn();
        partsRoundedDown();
        noOtherEntries();
        noEntriesLeftOver();
        noSuchEntry("spanOf", PressedPlains::spanOf);
        noSuchEntry("greatest", PressedPlains::greatest);
        noSuchEntry("second", PressedPlains::second);
        noSuchEntry("many", PressedPlains::many);
        noSuchEntry("noted", PressedPlains::noted);
        greatestHeight();
        secondHeight();
        secondOfNought();
        howMany();
        sumOfAll();
        equalDoesNotLag();
        oneMoreLags();
        firstEntryNeverLags();
        lagOfManyEntries();
        spans();
        Check.end();
    }

    private static void entryForAll() {
        Check.sentence("The entry 1 is for all columns");
        for (int columns = 1; columns <= 64; columns++) {
            BookEntry.span(Plains.flat(columns, 1), 1, 0, columns - 1);
        }
    }

    private static void partsOfOneColumn() {
        Check.sentence("if these are more than one, has two entries below it");
        PressedPlains plain = Plains.flat(1, 5);
        BookEntry.isNone(plain, 2);
        BookEntry.isNone(plain, 3);
        plain.layOut(2, 5);
        BookEntry.span(plain, 2, 0, 0);
        BookEntry.span(plain, 3, 1, 1);
        for (int entry = 4; entry <= 7; entry++) {
            BookEntry.isNone(plain, entry);
        }
    }

    private static void partsRoundedDown() {
        Check.sentence(
                "2e for those from f to (f + t) / 2, rounded down, and 2e + 1 for the others");
        PressedPlains plain = Plains.flat(6, 0);
        BookEntry.span(plain, 2, 0, 2);
        BookEntry.span(plain, 3, 3, 5);
        BookEntry.span(plain, 4, 0, 1);
        BookEntry.span(plain, 5, 2, 2);
        BookEntry.span(plain, 6, 3, 4);
        BookEntry.span(plain, 7, 5, 5);
        BookEntry.span(plain, 12, 3, 3);
        BookEntry.span(plain, 13, 4, 4);
        plain.layOut(3, 0);
        BookEntry.span(plain, 2, 0, 1);
        BookEntry.span(plain, 3, 2, 2);
        plain.layOut(4, 0);
        BookEntry.span(plain, 2, 0, 1);
        BookEntry.span(plain, 3, 2, 3);
    }

    private static void noOtherEntries() {
        Check.sentence("There are no other entries");
        PressedPlains plain = Plains.flat(5, 1);
        for (int entry = -1; entry <= 0; entry++) {
            BookEntry.isNone(plain, entry);
        }
        for (int entry = 10; entry <= 130; entry++) {
            BookEntry.isNone(plain, entry);
        }
        plain.layOut(64, 1);
        BookEntry.span(plain, 126, 62, 62);
        BookEntry.span(plain, 127, 63, 63);
        BookEntry.isNone(plain, 0);
        BookEntry.isNone(plain, 128);
    }

    private static void noEntriesLeftOver() {
        Check.sentence("There are no other entries", "nor any of a wider plain that was");
        PressedPlains plain = Plains.flat(64, 1);
        plain.layOut(63, 1);
        BookEntry.span(plain, 63, 62, 62);
        BookEntry.span(plain, 125, 61, 61);
        BookEntry.isNone(plain, 126);
        BookEntry.isNone(plain, 127);
        plain.layOut(33, 1);
        BookEntry.span(plain, 64, 0, 0);
        BookEntry.span(plain, 65, 1, 1);
        BookEntry.isNone(plain, 66);
        plain.layOut(32, 1);
        BookEntry.span(plain, 32, 0, 0);
        BookEntry.isNone(plain, 64);
        plain.layOut(1, 1);
        BookEntry.isNone(plain, 2);
    }

    private static void noSuchEntry(String name, EntryCall call) {
        Check.sentence("Throws `IndexOutOfBoundsException` if there is no such entry", name);
        for (int columns : new int[] {1, 2, 4, 32, 64}) {
            PressedPlains plain = Plains.flat(columns, 1);
            // These plains have all entries up to their last one.
            int most = 2 * columns - 1;
            Check.isTrue("the last", call.ask(plain, most) >= -1);
            for (int entry : Refused.beside(1, most)) {
                Refused.outOfBounds(name + " " + entry, plain, () -> call.ask(plain, entry));
            }
        }
        PressedPlains gaps = Plains.flat(5, 1);
        for (int entry : new int[] {10, 11, 14, 15, 64, 127, 128, 129, 1 << 30}) {
            Refused.outOfBounds(name + " " + entry, gaps, () -> call.ask(gaps, entry));
        }
    }

    private static void greatestHeight() {
        Check.sentence("Returns the greatest height that an entry has noted");
        PressedPlains plain = Plains.of(0, 1000);
        Check.same("of all", plain.greatest(1), 1000);
        Check.same("the least there is", plain.greatest(2), 0);
        Check.same("the greatest there is", plain.greatest(3), 1000);
        plain.lower(0, 1, 999);
        Check.same("noted anew", plain.greatest(1), 999);
        Check.same("as an entry that lags has noted it", plain.greatest(3), 1000);
    }

    private static void secondHeight() {
        Check.sentence("the greatest height that is less than that; -1 if there is none");
        Check.same("one column", Plains.of(7).second(1), -1);
        Check.same("all alike", Plains.of(7, 7, 7).second(1), -1);
        Check.same("one less", Plains.of(1000, 999).second(1), 999);
        Check.same("a third one", Plains.of(3, 9, 8).second(1), 8);
        Check.same("the greatest twice", Plains.of(9, 3, 9).second(1), 3);
    }

    private static void secondOfNought() {
        Check.sentence("-1 if there is none", "which a height of 0 is not");
        Check.same("0 beside 1", Plains.of(0, 1).second(1), 0);
        Check.same("1 beside 0", Plains.of(1, 0).second(1), 0);
        Check.same("0 alone", Plains.of(0, 0).second(1), -1);
        Check.same("0 in a part", Plains.of(5, 5, 5, 0).second(1), 0);
        Check.same("none in a part", Plains.of(5, 5, 5, 0).second(2), -1);
    }

    private static void howMany() {
        Check.sentence("Returns how many columns are as high as the greatest height");
        Check.same("one column", Plains.of(0).many(1), 1);
        Check.same("one of two", Plains.of(0, 1).many(1), 1);
        Check.same("two of three, in both parts", Plains.of(4, 3, 4).many(1), 2);
        Check.same("all", Plains.flat(64, 1000).many(1), 64);
        PressedPlains plain = Plains.lagging();
        Check.same("as an entry that lags has noted it", plain.many(2), 1);
    }

    private static void sumOfAll() {
        Check.sentence("Returns the sum that an entry has noted");
        Check.same("nothing", Plains.flat(64, 0).noted(1), 0);
        Check.same("one grain", Plains.of(0, 0, 1).noted(1), 1);
        Check.same("the most", Plains.flat(64, 1000).noted(1), 64000);
        PressedPlains plain = Plains.lagging();
        Check.same("of all, right at once", plain.noted(1), 15);
        Check.same("of an entry that lags", plain.noted(2), 11);
    }

    private static void equalDoesNotLag() {
        Check.sentence(
                "An entry lags if its greatest height is greater than that of the entry above",
                "as great is not");
        PressedPlains plain = Plains.flat(64, 5);
        Check.same("as great", plain.lagging(), 0);
        plain.pile(0, 2);
        Check.same("less", plain.lagging(), 0);
        plain.lower(0, 63, 6);
        // Entry 2 is greater than entry 1; the entries on the way to column 0 are as great as it.
        Check.same("greater in one part alone", plain.lagging(), 1);
    }

    private static void oneMoreLags() {
        Check.sentence("An entry lags if its greatest height is greater", "be it by 1");
        PressedPlains plain = Plains.flat(2, 1000);
        plain.lower(0, 1, 999);
        Check.same("both by one", plain.lagging(), 2);
        plain.lower(0, 1, 0);
        Check.same("both by all", plain.lagging(), 2);
        plain.earth(0, 0);
        Check.same("caught up", plain.lagging(), 0);
    }

    private static void firstEntryNeverLags() {
        Check.sentence("greater than that of the entry above it", "which the entry 1 has not");
        PressedPlains plain = new PressedPlains();
        plain.pile(0, 1000);
        Check.same("grown", plain.lagging(), 0);
        plain.lower(0, 0, 1);
        Check.same("pressed", plain.lagging(), 0);
    }

    private static void lagOfManyEntries() {
        Check.sentence("Returns how many entries lag");
        PressedPlains plain = Plains.flat(64, 10);
        Check.same("none", plain.lagging(), 0);
        plain.lower(0, 63, 9);
        // The entries further down are no higher than those above them, which lag.
        Check.same("only the upper two", plain.lagging(), 2);
        plain.earth(0, 0);
        // On the way to column 0 both below each entry caught up; those beside it handed it on.
        Check.same("two beside each step", plain.lagging(), 10);
        for (int column = 0; column < 64; column++) {
            plain.earth(column, column);
        }
        Check.same("none is left", plain.lagging(), 0);
    }

    private static void spans() {
        Check.sentence("Returns 100 times the first one, and the last one");
        PressedPlains plain = Plains.flat(64, 0);
        Check.same("all", plain.spanOf(1), 63);
        Check.same("the first half", plain.spanOf(2), 31);
        Check.same("the last half", plain.spanOf(3), 3263);
        Check.same("column 0", plain.spanOf(64), 0);
        Check.same("column 1", plain.spanOf(65), 101);
        Check.same("column 63", plain.spanOf(127), 6363);
        Check.same("one column alone", Plains.flat(1, 9).spanOf(1), 0);
    }
}
