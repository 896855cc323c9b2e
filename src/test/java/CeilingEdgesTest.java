/** The edges of the promises 10, 11 and 12. */
public final class CeilingEdgesTest {
    public static void main(String[] args) {
        lowestAndHighestCeiling();
        ceilingAtAHeight();
        wouldPressWhatLowerPresses();
        wouldPressChangesNothing();
        SpanEdges.noSuchColumn("wouldPress", (plain, from, to) -> plain.wouldPress(from, to, 4));
        SpanEdges.toBeforeFrom("wouldPress", (plain, from, to) -> plain.wouldPress(from, to, 4));
        wouldPressOutOfRange();
        justSoMuchEarth();
        orMore();
        leastEarth();
        mostEarth();
        everyCeiling();
        notSoMuchEarth();
        noEarthAtAll();
        ceilingForChangesNothing();
        SpanEdges.noSuchColumn("ceilingFor", (plain, from, to) -> plain.ceilingFor(from, to, 1));
        SpanEdges.toBeforeFrom("ceilingFor", (plain, from, to) -> plain.ceilingFor(from, to, 1));
        earthOutOfRange();
        overTheColumnsAlone();
        lowestCeiling();
        ceilingThatPressedNothing();
        sinceEarthWasPiled();
        sincePiledElsewhere();
        sinceTheRefusedPile();
        sinceLaidOut();
        onlyLoweredCeilings();
        ceilingOverWrongColumns();
        noCeiling();
        Check.end();
    }

    private static void lowestAndHighestCeiling() {
        Check.sentence("0 to 1000", "a ceiling that would press");
        PressedPlains plain = Plains.flat(64, 1000);
        Check.same("0", plain.wouldPress(0, 63, 0), 64000);
        Check.same("1", plain.wouldPress(0, 63, 1), 63936);
        Check.same("999", plain.wouldPress(0, 63, 999), 64);
        Check.same("1000", plain.wouldPress(0, 63, 1000), 0);
        plain.layOut(1, 0);
        Check.same("0 on 0", plain.wouldPress(0, 0, 0), 0);
    }

    private static void ceilingAtAHeight() {
        Check.sentence("Tells how much earth a ceiling would press away");
        PressedPlains plain = Plains.of(8, 3, 8, 2);
        Check.same("at the greatest height", plain.wouldPress(0, 3, 8), 0);
        Check.same("one lower", plain.wouldPress(0, 3, 7), 2);
        Check.same("at the second height", plain.wouldPress(0, 3, 3), 10);
        Check.same("one column, at its height", plain.wouldPress(1, 1, 3), 0);
        Check.same("one column, one lower", plain.wouldPress(1, 1, 2), 1);
        Check.same("the ends left out", plain.wouldPress(1, 2, 0), 11);
    }

    private static void wouldPressWhatLowerPresses() {
        Check.sentence("Returns the earth", "which a ceiling then presses away");
        PressedPlains plain = Plains.of(9, 1, 8, 2, 7, 3, 6);
        for (int from = 0; from < 7; from++) {
            for (int ceiling = 9 - from; ceiling >= 6 - from && ceiling >= 0; ceiling--) {
                int due = plain.wouldPress(from, 6, ceiling);
                Check.same("from " + from + " at " + ceiling, plain.lower(from, 6, ceiling), due);
                Check.same("then", plain.wouldPress(from, 6, ceiling), 0);
            }
        }
    }

    private static void wouldPressChangesNothing() {
        Check.sentence("nothing changes", "wouldPress");
        PressedPlains plain = Plains.lagging();
        String before = Snapshot.of(plain);
        Check.same("of all", plain.wouldPress(0, 3, 0), 15);
        Check.same("of a part", plain.wouldPress(1, 2, 4), 1);
        Check.same("all of it", Snapshot.of(plain), before);
    }

    private static void wouldPressOutOfRange() {
        Check.sentence("or ceiling is out of range", "wouldPress");
        PressedPlains plain = Plains.lagging();
        for (int ceiling : Refused.beside(0, 1000)) {
            Refused.illegalArgument("at " + ceiling, plain, () -> plain.wouldPress(0, 3, ceiling));
        }
    }

    private static void justSoMuchEarth() {
        Check.sentence("Finds the highest ceiling that would press some earth away");
        PressedPlains plain = Plains.of(8, 3, 8, 2);
        // 7 presses 2 away, 6 4, 5 6, 4 8, 3 10, 2 13, 1 17, 0 21.
        int[] pressed = {21, 17, 13, 10, 8, 6, 4, 2};
        for (int ceiling = 0; ceiling < pressed.length; ceiling++) {
            Check.same("just so much", plain.ceilingFor(0, 3, pressed[ceiling]), ceiling);
        }
    }

    private static void orMore() {
        Check.sentence("that would press some earth away, or more", "more");
        PressedPlains plain = Plains.of(8, 3, 8, 2);
        Check.same("1, pressed with 2", plain.ceilingFor(0, 3, 1), 7);
        Check.same("3, pressed with 4", plain.ceilingFor(0, 3, 3), 6);
        Check.same("11, pressed with 13", plain.ceilingFor(0, 3, 11), 2);
        Check.same("18, pressed with 21", plain.ceilingFor(0, 3, 18), 0);
        Check.same("one column never presses more", plain.ceilingFor(0, 0, 3), 5);
    }

    private static void leastEarth() {
        Check.sentence("1 to 64000", "the least earth");
        Check.same("of the highest", Plains.flat(64, 1000).ceilingFor(0, 63, 1), 999);
        Check.same("of a grain", Plains.of(1).ceilingFor(0, 0, 1), 0);
        Check.same("of one high column", Plains.of(0, 7, 0).ceilingFor(0, 2, 1), 6);
    }

    private static void mostEarth() {
        Check.sentence("1 to 64000", "the most earth");
        PressedPlains plain = Plains.flat(64, 1000);
        Check.same("all there can be", plain.ceilingFor(0, 63, 64000), 0);
        Check.same("all but a grain", plain.ceilingFor(0, 63, 63999), 0);
        Check.same("all but 63", plain.ceilingFor(0, 63, 63937), 0);
        Check.same("all but 64", plain.ceilingFor(0, 63, 63936), 1);
        plain.lower(0, 0, 999);
        Refused.noSuchElement("a grain too much", plain, () -> plain.ceilingFor(0, 63, 64000));
    }

    private static void everyCeiling() {
        Check.sentence("Returns the ceiling", "each from 999 down to 0");
        PressedPlains plain = Plains.flat(64, 1000);
        for (int ceiling = 999; ceiling >= 0; ceiling--) {
            int earth = 64 * (1000 - ceiling);
            Check.same("for " + earth, plain.ceilingFor(0, 63, earth), ceiling);
            Check.same("for 63 less", plain.ceilingFor(0, 63, earth - 63), ceiling);
        }
    }

    private static void notSoMuchEarth() {
        Check.sentence("Throws `NoSuchElementException` if there is not so much earth");
        PressedPlains plain = Plains.lagging();
        Check.same("all there is", plain.ceilingFor(0, 3, 15), 0);
        Refused.noSuchElement("a grain more", plain, () -> plain.ceilingFor(0, 3, 16));
        Refused.noSuchElement("the most", plain, () -> plain.ceilingFor(0, 3, 64000));
        Check.same("all of a part", plain.ceilingFor(1, 2, 8), 0);
        Refused.noSuchElement("a grain beside the part", plain, () -> plain.ceilingFor(1, 2, 9));
        Check.same("all of the last", plain.ceilingFor(3, 3, 2), 0);
        Refused.noSuchElement("more than the last", plain, () -> plain.ceilingFor(3, 3, 3));
    }

    private static void noEarthAtAll() {
        Check.sentence("if there is not so much earth", "nor any");
        PressedPlains plain = new PressedPlains();
        Refused.noSuchElement("at first", plain, () -> plain.ceilingFor(0, 0, 1));
        PressedPlains flat = Plains.flat(64, 0);
        Refused.noSuchElement("64 columns", flat, () -> flat.ceilingFor(0, 63, 1));
        flat.pile(5, 1);
        Check.same("a grain", flat.ceilingFor(0, 63, 1), 0);
        Refused.noSuchElement("beside it", flat, () -> flat.ceilingFor(6, 63, 1));
        Refused.noSuchElement("before it", flat, () -> flat.ceilingFor(0, 4, 1));
    }

    private static void ceilingForChangesNothing() {
        Check.sentence("nothing changes", "ceilingFor");
        PressedPlains plain = Plains.lagging();
        String before = Snapshot.of(plain);
        Check.same("of all", plain.ceilingFor(0, 3, 15), 0);
        Check.same("of a part", plain.ceilingFor(1, 2, 1), 4);
        Check.same("all of it", Snapshot.of(plain), before);
    }

    private static void earthOutOfRange() {
        Check.sentence("or earth is out of range", "ceilingFor");
        PressedPlains plain = Plains.flat(64, 1000);
        for (int earth : Refused.beside(1, 64000)) {
            Refused.illegalArgument("for " + earth, plain, () -> plain.ceilingFor(0, 63, earth));
        }
    }

    private static void overTheColumnsAlone() {
        Check.sentence("that was lowered over a column");
        PressedPlains plain = Plains.flat(64, 5);
        plain.lower(1, 62, 4);
        Check.same("the first under it", plain.ceilingOver(1), 4);
        Check.same("the last under it", plain.ceilingOver(62), 4);
        Refused.noSuchElement("the one before", plain, () -> plain.ceilingOver(0));
        Refused.noSuchElement("the one behind", plain, () -> plain.ceilingOver(63));
        plain.lower(0, 0, 3);
        plain.lower(63, 63, 2);
        Check.same("column 0", plain.ceilingOver(0), 3);
        Check.same("column 63", plain.ceilingOver(63), 2);
        Check.same("beside column 0", plain.ceilingOver(1), 4);
    }

    private static void lowestCeiling() {
        Check.sentence("Tells the lowest ceiling");
        PressedPlains plain = Plains.flat(2, 1000);
        int[] ceilings = {1000, 999, 999, 1000, 1, 2, 0, 1000};
        int[] due = {1000, 999, 999, 999, 1, 1, 0, 0};
        for (int call = 0; call < ceilings.length; call++) {
            plain.lower(1, 1, ceilings[call]);
            Check.same("after " + ceilings[call], plain.ceilingOver(1), due[call]);
        }
    }

    private static void ceilingThatPressedNothing() {
        Check.sentence("also one that pressed nothing there");
        PressedPlains plain = Plains.of(5, 3, 0);
        plain.lower(0, 2, 1000);
        Check.same("far above", plain.ceilingOver(0), 1000);
        plain.lower(0, 2, 5);
        Check.same("at the height", plain.ceilingOver(0), 5);
        plain.lower(0, 2, 4);
        Check.same("pressed beside it", plain.ceilingOver(1), 4);
        plain.lower(2, 2, 0);
        Check.same("on nothing", plain.ceilingOver(2), 0);
    }

    private static void sinceEarthWasPiled() {
        Check.sentence("since earth was last piled onto it");
        PressedPlains plain = Plains.flat(2, 9);
        plain.lower(0, 1, 2);
        plain.pile(0, 1);
        Refused.noSuchElement("by a grain", plain, () -> plain.ceilingOver(0));
        plain.lower(0, 1, 700);
        Check.same("a higher one since", plain.ceilingOver(0), 700);
        Check.same("where nothing was piled", plain.ceilingOver(1), 2);
        plain.pile(0, 1);
        plain.pile(0, 1);
        Refused.noSuchElement("piled twice", plain, () -> plain.ceilingOver(0));
        plain.lower(0, 0, 600);
        plain.lower(0, 0, 650);
        Check.same("since the last time", plain.ceilingOver(0), 600);
    }

    private static void sincePiledElsewhere() {
        Check.sentence("since earth was last piled onto it", "not onto another");
        PressedPlains plain = Plains.flat(3, 9);
        plain.lower(0, 2, 2);
        plain.pile(0, 1);
        plain.pile(2, 1);
        Check.same("between two piles", plain.ceilingOver(1), 2);
    }

    private static void sinceTheRefusedPile() {
        Check.sentence("since earth was last piled onto it", "which a refused call did not");
        PressedPlains plain = Plains.flat(3, 9);
        plain.lower(0, 2, 2);
        Refused.illegalState("too high", plain, () -> plain.pile(1, 999));
        Refused.illegalArgument("no earth", plain, () -> plain.pile(1, 0));
        Check.same("the ceiling stays", plain.ceilingOver(1), 2);
    }

    private static void sinceLaidOut() {
        Check.sentence("or since the plain was laid out if none was");
        PressedPlains plain = Plains.flat(3, 9);
        plain.lower(0, 2, 2);
        Check.illegalArgument("layOut(3, 1001)", () -> plain.layOut(3, 1001));
        Check.same("after a refused call", plain.ceilingOver(1), 2);
        plain.layOut(3, 9);
        Refused.noSuchElement("laid out again", plain, () -> plain.ceilingOver(1));
        plain.lower(1, 1, 8);
        Check.same("a higher one since", plain.ceilingOver(1), 8);
        PressedPlains first = new PressedPlains();
        first.lower(0, 0, 0);
        Check.same("on the plain at first", first.ceilingOver(0), 0);
    }

    private static void onlyLoweredCeilings() {
        Check.sentence("Tells the lowest ceiling that was lowered", "not one asked for or refused");
        PressedPlains plain = Plains.flat(3, 9);
        plain.wouldPress(0, 2, 1);
        plain.ceilingFor(0, 2, 1);
        Check.illegalArgument("lower(0, 2, -1)", () -> plain.lower(0, 2, -1));
        Check.illegalArgument("lower(2, 0, 1)", () -> plain.lower(2, 0, 1));
        Check.outOfBounds("lower(0, 3, 1)", () -> plain.lower(0, 3, 1));
        Refused.noSuchElement("none was lowered", plain, () -> plain.ceilingOver(1));
    }

    private static void ceilingOverWrongColumns() {
        Check.sentence(
                "Throws `IndexOutOfBoundsException` if there is no such column",
                "ceilingOver");
        for (int columns : new int[] {1, 4, 63, 64}) {
            PressedPlains plain = Plains.flat(columns, 3);
            plain.lower(0, columns - 1, 2);
            for (int column : Refused.beside(0, columns - 1)) {
                Refused.outOfBounds("over " + column, plain, () -> plain.ceilingOver(column));
            }
        }
    }

    private static void noCeiling() {
        Check.sentence("Throws `NoSuchElementException` if there was none");
        PressedPlains plain = new PressedPlains();
        Refused.noSuchElement("at first", plain, () -> plain.ceilingOver(0));
        plain.lower(0, 0, 1000);
        Check.same("the highest there is", plain.ceilingOver(0), 1000);
        plain.pile(0, 1000);
        Refused.noSuchElement("after piling", plain, () -> plain.ceilingOver(0));
    }
}
