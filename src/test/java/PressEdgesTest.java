/** The edges of pressing down, catching up, telling anew and lowering, and of the promise 4. */
public final class PressEdgesTest {
    public static void main(String[] args) {
        secondJustLess();
        secondJustAsGreat();
        secondIsNone();
        secondIsNought();
        greatestByOne();
        greatestAtMost();
        ceilingAtTheTop();
        everyColumnAsHigh();
        nothingBelow();
        noneOfTheColumns();
        noneButTheColumns();
        allButOneColumn();
        oneColumnAlone();
        oneLagsOneNot();
        onlyTheTwoBelow();
        severalCeilingsAtOnce();
        comesInVain();
        stopsBeforeCatchingUp();
        toldFromOneOrBoth();
        secondFromEachOfFour();
        secondFromMinusOne();
        earthPressedAway();
        SpanEdges.noSuchColumn("lower", (plain, from, to) -> plain.lower(from, to, 4));
        SpanEdges.toBeforeFrom("lower", (plain, from, to) -> plain.lower(from, to, 4));
        toAsGreatAsFrom();
        ceilingOutOfRange();
        Check.end();
    }

    private static void secondJustLess() {
        Check.sentence("To press an entry down to c, where its second height is less than c");
        PressedPlains plain = Plains.of(8, 3, 8, 2);
        Check.same("c is the second height and 1", plain.lower(0, 3, 4), 8);
        Check.same("visits", plain.visits(), 1);
        BookEntry.same(plain, 1, 4, 3, 2, 13);
        BookEntry.same(plain, 2, 8, 3, 1, 11);
    }

    private static void secondJustAsGreat() {
        Check.sentence("otherwise the two below it catch up", "the second height is c");
        PressedPlains plain = Plains.of(8, 3, 8, 2);
        Check.same("c is the second height", plain.lower(0, 3, 3), 10);
        Check.same("visits", plain.visits(), 5);
        BookEntry.same(plain, 1, 3, 2, 3, 11);
        BookEntry.same(plain, 2, 3, -1, 2, 6);
        BookEntry.same(plain, 3, 3, 2, 1, 5);
    }

    private static void secondIsNone() {
        Check.sentence("its second height is less than c", "-1, and c is 0");
        PressedPlains plain = Plains.flat(4, 5);
        Check.same("all of it", plain.lower(0, 3, 0), 20);
        Check.same("visits", plain.visits(), 1);
        BookEntry.same(plain, 1, 0, -1, 4, 0);
        BookEntry.same(plain, 2, 5, -1, 2, 10);
        Check.same("lagging", plain.lagging(), 2);
    }

    private static void secondIsNought() {
        Check.sentence("its second height is less than c", "but not 0, where c is 0");
        PressedPlains plain = Plains.of(5, 0);
        Check.same("all of it", plain.lower(0, 1, 0), 5);
        Check.same("visits", plain.visits(), 3);
        BookEntry.same(plain, 1, 0, -1, 2, 0);
        BookEntry.same(plain, 2, 0, -1, 1, 0);
    }

    private static void greatestByOne() {
        Check.sentence("and its greatest is greater", "by 1");
        PressedPlains plain = Plains.of(8, 3, 8, 2);
        Check.same("greater by 1", plain.lower(0, 3, 7), 2);
        BookEntry.same(plain, 1, 7, 3, 2, 19);
    }

    private static void greatestAtMost() {
        Check.sentence("its greatest height is at most c, nothing happens");
        PressedPlains plain = Plains.lagging();
        String before = bookOf(plain);
        for (int ceiling : new int[] {5, 6, 999, 1000}) {
            Check.same("all, at " + ceiling, plain.lower(0, 3, ceiling), 0);
            Check.same("visits", plain.visits(), 1);
            Check.same("a part, at " + ceiling, plain.lower(1, 2, ceiling), 0);
            Check.same("visits of a part", plain.visits(), 1);
        }
        Check.same("the book", bookOf(plain), before);
    }

    private static void ceilingAtTheTop() {
        Check.sentence("0 to 1000", "a ceiling that is lowered");
        PressedPlains plain = Plains.flat(3, 1000);
        Check.same("1000 on 1000", plain.lower(0, 2, 1000), 0);
        Check.same("999 on 1000", plain.lower(0, 2, 999), 3);
        Check.same("1", plain.lower(0, 2, 1), 2994);
        Check.same("0", plain.lower(0, 2, 0), 3);
        Check.same("0 on 0", plain.lower(0, 2, 0), 0);
        Check.same("1000 on 0", plain.lower(0, 2, 1000), 0);
    }

    private static void everyColumnAsHigh() {
        Check.sentence("for each column that is as high as the greatest", "all of them, or one");
        PressedPlains plain = Plains.flat(64, 1000);
        Check.same("every column", plain.lower(0, 63, 0), 64000);
        Check.same("visits", plain.visits(), 1);
        BookEntry.same(plain, 1, 0, -1, 64, 0);
        plain.layOut(64, 0);
        plain.pile(40, 1000);
        Check.same("one column", plain.lower(0, 63, 1), 999);
        BookEntry.same(plain, 1, 1, 0, 1, 1);
    }

    private static void nothingBelow() {
        Check.sentence("Nothing is done to the entries below it");
        PressedPlains plain = Plains.of(8, 3, 8, 2);
        plain.lower(0, 3, 5);
        BookEntry.same(plain, 2, 8, 3, 1, 11);
        BookEntry.same(plain, 3, 8, 2, 1, 10);
        BookEntry.same(plain, 4, 8, -1, 1, 8);
        BookEntry.same(plain, 6, 8, -1, 1, 8);
        PressedPlains single = Plains.of(8);
        single.lower(0, 0, 5);
        BookEntry.same(single, 1, 5, -1, 1, 5);
    }

    private static void noneOfTheColumns() {
        Check.sentence("if the entry has none of these columns", "nothing happens");
        PressedPlains plain = Plains.flat(2, 5);
        Check.same("the column before", plain.lower(0, 0, 3), 2);
        Check.same("visits", plain.visits(), 3);
        BookEntry.same(plain, 3, 5, -1, 1, 5);
        plain.layOut(2, 5);
        Check.same("the column behind", plain.lower(1, 1, 3), 2);
        Check.same("visits then", plain.visits(), 3);
        BookEntry.same(plain, 2, 5, -1, 1, 5);
        plain.layOut(4, 5);
        plain.lower(2, 2, 3);
        Check.same("a whole half is come to and left", plain.visits(), 5);
        BookEntry.same(plain, 2, 5, -1, 2, 10);
        BookEntry.same(plain, 7, 5, -1, 1, 5);
    }

    private static void noneButTheColumns() {
        Check.sentence("if it has none but these columns", "it is pressed down");
        PressedPlains plain = Plains.flat(4, 5);
        Check.same("all columns", plain.lower(0, 3, 4), 4);
        Check.same("visits", plain.visits(), 1);
        Check.same("the first half", plain.lower(0, 1, 3), 2);
        Check.same("visits of the half", plain.visits(), 3);
        BookEntry.same(plain, 4, 5, -1, 1, 5);
        Check.same("the last half", plain.lower(2, 3, 3), 2);
        Check.same("visits of the last half", plain.visits(), 3);
        BookEntry.same(plain, 7, 5, -1, 1, 5);
    }

    private static void allButOneColumn() {
        Check.sentence("if it has none but these columns", "which one more column ends");
        PressedPlains plain = Plains.flat(4, 5);
        Check.same("all but the last", plain.lower(0, 2, 4), 3);
        Check.same("visits", plain.visits(), 5);
        BookEntry.same(plain, 1, 5, 4, 1, 17);
        plain.layOut(4, 5);
        Check.same("all but the first", plain.lower(1, 3, 4), 3);
        Check.same("visits then", plain.visits(), 5);
        BookEntry.same(plain, 1, 5, 4, 1, 17);
    }

    private static void oneColumnAlone() {
        Check.sentence("One column alone has no second height, so it is always pressed down");
        PressedPlains plain = Plains.of(1000);
        Check.same("to 1", plain.lower(0, 0, 1), 999);
        Check.same("visits", plain.visits(), 1);
        Check.same("to 0", plain.lower(0, 0, 0), 1);
        Check.same("visits then", plain.visits(), 1);
        BookEntry.same(plain, 1, 0, -1, 1, 0);
        PressedPlains wide = Plains.flat(64, 1);
        Check.same("the last of 64 to 0", wide.lower(63, 63, 0), 1);
        Check.same("visits of the last", wide.visits(), 13);
        BookEntry.same(wide, 127, 0, -1, 1, 0);
        BookEntry.same(wide, 1, 1, 0, 63, 63);
    }

    private static void oneLagsOneNot() {
        Check.sentence("each of them that lags is pressed down", "one lags, one does not");
        PressedPlains plain = Plains.of(8, 3, 5, 2);
        plain.lower(0, 3, 6);
        Check.same("lagging", plain.lagging(), 1);
        Check.same("earth(0, 1)", plain.earth(0, 1), 9);
        BookEntry.same(plain, 2, 6, 3, 1, 9);
        BookEntry.same(plain, 3, 5, 2, 1, 7);
        plain = Plains.of(5, 3, 8, 2);
        plain.lower(0, 3, 5);
        plain.earth(0, 1);
        BookEntry.same(plain, 2, 5, 3, 1, 8);
        BookEntry.same(plain, 3, 5, 2, 1, 7);
    }

    private static void onlyTheTwoBelow() {
        Check.sentence("The two entries below an entry catch up");
        PressedPlains plain = Plains.lagging();
        plain.earth(0, 1);
        BookEntry.same(plain, 2, 5, 3, 1, 8);
        BookEntry.same(plain, 3, 5, 2, 1, 7);
        BookEntry.same(plain, 4, 8, -1, 1, 8);
        BookEntry.same(plain, 6, 8, -1, 1, 8);
        Check.same("the next two lag instead", plain.lagging(), 2);
    }

    private static void severalCeilingsAtOnce() {
        Check.sentence("is pressed down to the greatest height of the entry above");
        PressedPlains plain = Plains.of(8, 3, 8, 2);
        for (int ceiling = 7; ceiling >= 4; ceiling--) {
            plain.lower(0, 3, ceiling);
        }
        Check.same("four ceilings in one step", plain.earth(0, 1), 7);
        BookEntry.same(plain, 2, 4, 3, 1, 7);
        BookEntry.same(plain, 3, 4, 2, 1, 6);
    }

    private static void comesInVain() {
        Check.sentence("and the entry is told anew", "in vain");
        PressedPlains plain = Plains.lagging();
        Check.same("a lower column alone", plain.lower(1, 1, 4), 0);
        Check.same("visits", plain.visits(), 5);
        BookEntry.same(plain, 1, 5, 3, 2, 15);
        BookEntry.same(plain, 2, 5, 3, 1, 8);
        BookEntry.same(plain, 3, 5, 2, 1, 7);
        BookEntry.same(plain, 4, 5, -1, 1, 5);
        Check.same("only entry 6 lags", plain.lagging(), 1);
    }

    private static void stopsBeforeCatchingUp() {
        Check.sentence("nothing happens", "nor do those below catch up");
        PressedPlains plain = Plains.lagging();
        Check.same("at most c", plain.lower(0, 0, 5), 0);
        Check.same("visits", plain.visits(), 1);
        Check.same("lagging", plain.lagging(), 2);
        plain.lower(3, 3, 1);
        Check.same("visits to the last column", plain.visits(), 5);
        // Entry 2 has none of these columns: it caught up, but nothing happens to those below it.
        BookEntry.same(plain, 2, 5, 3, 1, 8);
        BookEntry.same(plain, 4, 8, -1, 1, 8);
        Check.same("entry 4 lags", plain.lagging(), 1);
    }

    private static void toldFromOneOrBoth() {
        Check.sentence("the number of columns with it is that of the one that has it, or of both");
        BookEntry.same(Plains.of(9, 9, 8, 8), 1, 9, 8, 2, 34);
        BookEntry.same(Plains.of(8, 8, 9, 9), 1, 9, 8, 2, 34);
        BookEntry.same(Plains.of(9, 9, 9, 8), 1, 9, 8, 3, 35);
        BookEntry.same(Plains.of(9, 9, 9, 9), 1, 9, -1, 4, 36);
        BookEntry.same(Plains.of(0, 0, 0, 1), 1, 1, 0, 1, 1);
    }

    private static void secondFromEachOfFour() {
        Check.sentence("its second height is the greatest of those of their four heights");
        Check.same("the greatest of the first", Plains.of(5, 1, 9, 2).second(1), 5);
        Check.same("the greatest of the other", Plains.of(9, 2, 5, 1).second(1), 5);
        Check.same("the second of the first", Plains.of(9, 7, 5, 1).second(1), 7);
        Check.same("the second of the other", Plains.of(5, 1, 9, 7).second(1), 7);
        Check.same("the greater second, of the other", Plains.of(9, 3, 9, 4).second(1), 4);
        Check.same("the greater second, of the first", Plains.of(9, 4, 9, 3).second(1), 4);
        Check.same("both seconds", Plains.of(9, 4, 9, 4).second(1), 4);
        Check.same("a second and a greatest alike", Plains.of(9, 4, 4, 1).second(1), 4);
    }

    private static void secondFromMinusOne() {
        Check.sentence("where -1 counts as a height, too");
        Check.same("nothing but -1", Plains.of(9, 9, 9, 9).second(1), -1);
        Check.same("two columns alike", Plains.of(9, 9).second(1), -1);
        Check.same("-1 beside a height", Plains.of(9, 9, 9, 2).second(1), 2);
        Check.same("-1 beside 0", Plains.of(9, 9, 9, 0).second(1), 0);
        Check.same("-1 twice beside a lower greatest", Plains.of(9, 9, 0, 0).second(1), 0);
        Check.same("less than a greatest of 0", Plains.of(0, 0, 0).second(1), -1);
        PressedPlains plain = Plains.of(1, 0, 1, 0);
        plain.lower(0, 3, 0);
        BookEntry.same(plain, 1, 0, -1, 4, 0);
    }

    private static void earthPressedAway() {
        Check.sentence("Returns the earth that is pressed away");
        PressedPlains plain = Plains.of(8, 3, 8, 2);
        Check.same("none", plain.lower(0, 3, 8), 0);
        Check.same("none of the lower ones", plain.lower(1, 1, 3), 0);
        Check.same("a grain", plain.lower(0, 0, 7), 1);
        Check.same("the same again", plain.lower(0, 0, 7), 0);
        Check.same("all that is left", plain.lower(0, 3, 0), 20);
        Check.same("of nothing", plain.lower(0, 3, 0), 0);
    }

    private static void toAsGreatAsFrom() {
        Check.sentence("a column, not less than from", "but as great as it");
        PressedPlains plain = Plains.lagging();
        int[] due = {4, 2, 4, 1};
        for (int column = 0; column < due.length; column++) {
            Check.same("column " + column, plain.lower(column, column, 1), due[column]);
        }
    }

    private static void ceilingOutOfRange() {
        Check.sentence("or ceiling is out of range", "lower");
        PressedPlains plain = Plains.lagging();
        for (int ceiling : Refused.beside(0, 1000)) {
            Refused.illegalArgument("at " + ceiling, plain, () -> plain.lower(0, 3, ceiling));
            Refused.illegalArgument("one column", plain, () -> plain.lower(3, 3, ceiling));
        }
    }

    /** Without the visits, which a ceiling that presses nothing counts all the same. */
    private static String bookOf(PressedPlains plain) {
        StringBuilder text = new StringBuilder();
        for (int entry = 1; entry < 2 * plain.columns(); entry++) {
            text.append(plain.greatest(entry)).append(' ').append(plain.second(entry)).append(' ')
                    .append(plain.many(entry)).append(' ').append(plain.noted(entry)).append('\n');
        }
        return text.toString();
    }
}
