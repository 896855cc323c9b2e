/** Promises 19, 20, 21 and 24. */
public final class VisitsTest {
    public static void main(String[] args) {
        tellsHowManyLag();
        countsVisits();
        countsNoOtherCalls();
        tellsTheMean();
        Check.end();
    }

    private static void tellsHowManyLag() {
        PressedPlains plain = Plains.of(8, 3, 8, 2);
        Check.same("none at first", plain.lagging(), 0);
        plain.lower(0, 3, 5);
        // 2 and 3 lag behind 1; 4 and 6 are as high as 2 and 3, so they don't.
        Check.same("after one ceiling", plain.lagging(), 2);
        plain.earth(0, 1);
        // 2 and 3 have caught up, and now 4 and 6 lag.
        Check.same("handed down", plain.lagging(), 2);
        plain.top(0, 0);
        Check.same("one branch caught up", plain.lagging(), 1);
        plain.top(3, 3);
        Check.same("all caught up", plain.lagging(), 0);
        plain.lower(0, 3, 4);
        Check.same("again", plain.lagging(), 2);
        plain.layOut(4, 4);
        Check.same("laid out", plain.lagging(), 0);
    }

    private static void countsVisits() {
        PressedPlains plain = new PressedPlains();
        plain.layOut(8, 10);
        plain.pile(7, 1);
        Check.same("pile", plain.visits(), 4);
        plain.lower(0, 7, 10);
        Check.same("lower over all", plain.visits(), 7);
        plain.earth(0, 3);
        Check.same("earth of a half", plain.visits(), 3);
        plain.top(3, 4);
        Check.same("top across the middle", plain.visits(), 11);
        plain.lower(0, 0, 1000);
        Check.same("lower in vain", plain.visits(), 1);
        Check.same("allVisits", plain.allVisits(), 4 + 7 + 3 + 11 + 1);
        Check.same("meanVisits", plain.meanVisits(), 26.0 / 5.0);
    }

    private static void countsNoOtherCalls() {
        PressedPlains plain = Plains.of(8, 3, 8, 2);
        plain.lower(0, 3, 5);
        plain.earth(1, 2);
        int all = plain.allVisits();
        plain.earthByColumns(0, 3);
        plain.height(1);
        plain.heightOfColumn(1);
        plain.wouldPress(0, 3, 1);
        plain.ceilingFor(0, 3, 1);
        plain.ceilingOver(1);
        plain.columns();
        plain.spanOf(1);
        plain.greatest(1);
        plain.second(1);
        plain.many(1);
        plain.noted(1);
        plain.lagging();
        plain.pressedAway();
        plain.pressedAwayByRest();
        Check.outOfBounds("earth(0, 4)", () -> plain.earth(0, 4));
        Check.illegalArgument("top(1, 0)", () -> plain.top(1, 0));
        Check.illegalArgument("lower(0, 3, -1)", () -> plain.lower(0, 3, -1));
        Check.illegalState("pile(0, 1000)", () -> plain.pile(0, 1000));
        Check.same("visits", plain.visits(), 7);
        Check.same("allVisits", plain.allVisits(), all);
        Check.same("meanVisits", plain.meanVisits(), all / 6.0);
    }

    private static void tellsTheMean() {
        PressedPlains plain = new PressedPlains();
        Check.same("without a call", plain.meanVisits(), 0.0);
        plain.layOut(2, 5);
        Check.same("laid out", plain.meanVisits(), 0.0);
        plain.earth(0, 1);
        plain.earth(0, 1);
        plain.earth(0, 0);
        Check.same("five by three", plain.meanVisits(), 5.0 / 3.0);
        plain.layOut(2, 5);
        Check.same("laid out again", plain.meanVisits(), 0.0);
        Check.same("visits", plain.visits(), 0);
        Check.same("allVisits", plain.allVisits(), 0);
        plain.earth(0, 0);
        Check.same("only the calls since then", plain.meanVisits(), 3.0);
    }
}
