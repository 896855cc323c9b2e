/**
 * The edges of "If several exceptions apply to a call, the one that is named first is thrown; a
 * call that throws changes nothing and comes to no entry". The plain lags, so that a call that came
 * to an entry before it threw would leave something else behind; Refused looks at that.
 */
public final class OrderEdgesTest {
    private static final String FIRST =
            "If several exceptions apply to a call, the one that is named first is thrown";

    public static void main(String[] args) {
        ofPile();
        ofPileThreeAtOnce();
        ofLower();
        ofWouldPress();
        ofCeilingFor();
        ofCeilingForWithoutEarth();
        ofEarth();
        ofEarthByColumns();
        ofTop();
        ofCeilingOver();
        refusedInARow();
        Check.end();
    }

    private static void ofPile() {
        Check.sentence(FIRST, "pile, earth out of range and too high");
        PressedPlains plain = Plains.of(1000, 1);
        Refused.illegalArgument("pile(0, 1001)", plain, () -> plain.pile(0, 1001));
        Refused.illegalArgument("pile(1, 1001)", plain, () -> plain.pile(1, 1001));
        Refused.illegalArgument("the most", plain, () -> plain.pile(0, Integer.MAX_VALUE));
        Refused.illegalArgument("pile(0, 0)", plain, () -> plain.pile(0, 0));
        Refused.illegalState("in range", plain, () -> plain.pile(1, 1000));
    }

    private static void ofPileThreeAtOnce() {
        Check.sentence(FIRST, "pile, no such column");
        PressedPlains plain = Plains.of(1000, 1000);
        for (int column : Refused.beside(0, 1)) {
            Refused.outOfBounds("too high", plain, () -> plain.pile(column, 1));
            Refused.outOfBounds("out of range", plain, () -> plain.pile(column, 0));
            Refused.outOfBounds("both", plain, () -> plain.pile(column, 1001));
        }
    }

    private static void ofLower() {
        Check.sentence(FIRST, "lower");
        PressedPlains plain = Plains.lagging();
        Refused.wrongColumnFirst("lower", plain, (from, to) -> plain.lower(from, to, 4));
        Refused.wrongColumns("lower at -1", plain, (from, to) -> plain.lower(from, to, -1));
        Refused.wrongColumns("lower at 1001", plain, (from, to) -> plain.lower(from, to, 1001));
        Refused.toLessThanFrom("lower at 1001", plain, (from, to) -> plain.lower(from, to, 1001));
    }

    private static void ofWouldPress() {
        Check.sentence(FIRST, "wouldPress");
        PressedPlains plain = Plains.lagging();
        Refused.wrongColumnFirst("would", plain, (from, to) -> plain.wouldPress(from, to, 4));
        Refused.wrongColumns("would at -1", plain, (from, to) -> plain.wouldPress(from, to, -1));
        Refused.wrongColumns("at 1001", plain, (from, to) -> plain.wouldPress(from, to, 1001));
        Refused.toLessThanFrom("at 1001", plain, (from, to) -> plain.wouldPress(from, to, 1001));
    }

    private static void ofCeilingFor() {
        Check.sentence(FIRST, "ceilingFor");
        PressedPlains plain = Plains.lagging();
        Refused.wrongColumnFirst("for 1", plain, (from, to) -> plain.ceilingFor(from, to, 1));
        Refused.wrongColumns("for 0", plain, (from, to) -> plain.ceilingFor(from, to, 0));
        Refused.wrongColumns("for 64001", plain, (from, to) -> plain.ceilingFor(from, to, 64001));
        Refused.toLessThanFrom("for 0", plain, (from, to) -> plain.ceilingFor(from, to, 0));
    }

    private static void ofCeilingForWithoutEarth() {
        Check.sentence(FIRST, "ceilingFor, where there is not so much earth either");
        PressedPlains plain = Plains.flat(3, 0);
        Refused.wrongColumns("for 64000", plain, (from, to) -> plain.ceilingFor(from, to, 64000));
        Refused.toLessThanFrom("for 64000", plain, (from, to) -> plain.ceilingFor(from, to, 64000));
        Refused.illegalArgument("for 64001", plain, () -> plain.ceilingFor(0, 2, 64001));
        Refused.noSuchElement("for 64000", plain, () -> plain.ceilingFor(0, 2, 64000));
    }

    private static void ofEarth() {
        Check.sentence(FIRST, "earth");
        PressedPlains plain = Plains.lagging();
        Refused.wrongColumnFirst("earth", plain, plain::earth);
    }

    private static void ofEarthByColumns() {
        Check.sentence(FIRST, "earthByColumns");
        PressedPlains plain = Plains.lagging();
        Refused.wrongColumnFirst("earthByColumns", plain, plain::earthByColumns);
    }

    private static void ofTop() {
        Check.sentence(FIRST, "top");
        PressedPlains plain = Plains.lagging();
        Refused.wrongColumnFirst("top", plain, plain::top);
    }

    private static void ofCeilingOver() {
        Check.sentence(FIRST, "ceilingOver, where there was no ceiling at all");
        PressedPlains plain = Plains.flat(3, 5);
        for (int column : Refused.beside(0, 2)) {
            Refused.outOfBounds("over " + column, plain, () -> plain.ceilingOver(column));
        }
    }

    private static void refusedInARow() {
        Check.sentence("a call that throws changes nothing and comes to no entry");
        PressedPlains plain = Plains.lagging();
        String before = Snapshot.of(plain);
        for (int round = 0; round < 3; round++) {
            Check.illegalArgument("layOut", () -> plain.layOut(65, 1));
            Check.illegalState("pile", () -> plain.pile(0, 996));
            Check.illegalArgument("lower", () -> plain.lower(0, 3, -1));
            Check.illegalArgument("earth", () -> plain.earth(1, 0));
            Check.illegalArgument("top", () -> plain.top(1, 0));
            Check.noSuchElement("ceilingFor", () -> plain.ceilingFor(0, 3, 16));
        }
        Check.same("all of it", Snapshot.of(plain), before);
        Check.same("the next answer", plain.earth(0, 1), 8);
        Check.same("its visits", plain.visits(), 3);
    }
}
