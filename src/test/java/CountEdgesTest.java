/** The edges of what counts as a visit, and of the promises 20 to 24. */
public final class CountEdgesTest {
    public static void main(String[] args) {
        visitsInVain();
        callsThatComeToNoEntry();
        latestCall();
        noneSinceLaidOut();
        allSinceLaidOut();
        averageWithoutACall();
        averageAsADouble();
        averageOfTheseCallsAlone();
        averageSinceLaidOut();
        pressedCallByCall();
        pressedSinceLaidOut();
        pressedMoreThanLiesThere();
        toldByTheRest();
        toldByTheRestAfterRefusals();
        Check.end();
    }

    private static void visitsInVain() {
        Check.sentence("counts as a visit, also those at which nothing happens");
        PressedPlains plain = Plains.flat(2, 5);
        plain.lower(0, 1, 5);
        Check.same("a ceiling in vain", plain.visits(), 1);
        plain.lower(0, 0, 4);
        Check.same("an entry with none of the columns", plain.visits(), 3);
        plain.earth(1, 1);
        Check.same("one that gives nothing", plain.visits(), 3);
        plain.top(1, 1);
        Check.same("one that is left out", plain.visits(), 3);
        Check.same("allVisits", plain.allVisits(), 10);
        PressedPlains flat = new PressedPlains();
        flat.lower(0, 0, 1000);
        Check.same("on nothing", flat.visits(), 1);
    }

    private static void callsThatComeToNoEntry() {
        Check.sentence("no other call makes an entry catch up or counts a visit");
        PressedPlains plain = Plains.lagging();
        comesToNone("earthByColumns", plain, () -> plain.earthByColumns(0, 0));
        comesToNone("height", plain, () -> plain.height(0));
        comesToNone("heightOfColumn", plain, () -> plain.heightOfColumn(0));
        comesToNone("wouldPress", plain, () -> plain.wouldPress(0, 0, 0));
        comesToNone("ceilingFor", plain, () -> plain.ceilingFor(0, 0, 1));
        comesToNone("ceilingOver", plain, () -> plain.ceilingOver(0));
        comesToNone("columns", plain, plain::columns);
        comesToNone("spanOf", plain, () -> plain.spanOf(4));
        comesToNone("greatest", plain, () -> plain.greatest(4));
        comesToNone("second", plain, () -> plain.second(4));
        comesToNone("many", plain, () -> plain.many(4));
        comesToNone("noted", plain, () -> plain.noted(4));
        comesToNone("lagging", plain, plain::lagging);
        comesToNone("visits", plain, plain::visits);
        comesToNone("allVisits", plain, plain::allVisits);
        comesToNone("pressedAway", plain, plain::pressedAway);
        comesToNone("pressedAwayByRest", plain, plain::pressedAwayByRest);
        comesToNone("meanVisits", plain, plain::meanVisits);
    }

    private static void comesToNone(String name, PressedPlains plain, Runnable call) {
        String before = Snapshot.of(plain);
        call.run();
        Check.same(name, Snapshot.of(plain), before);
    }

    private static void latestCall() {
        Check.sentence("how many visits there were in the latest call that came to entries");
        PressedPlains plain = Plains.flat(64, 5);
        plain.earth(1, 62);
        Check.same("many", plain.visits(), 23);
        plain.height(0);
        plain.wouldPress(0, 63, 0);
        Check.same("after calls that come to none", plain.visits(), 23);
        Check.outOfBounds("earth(0, 64)", () -> plain.earth(0, 64));
        Check.illegalState("pile(0, 996)", () -> plain.pile(0, 996));
        Check.same("after refused calls", plain.visits(), 23);
        plain.lower(0, 63, 5);
        Check.same("few", plain.visits(), 1);
        plain.top(0, 31);
        Check.same("each call anew", plain.visits(), 3);
    }

    private static void noneSinceLaidOut() {
        Check.sentence("0 if there was none since the plain was laid out");
        PressedPlains plain = new PressedPlains();
        Check.same("at first", plain.visits(), 0);
        plain.columns();
        plain.earthByColumns(0, 0);
        Check.same("after calls that come to none", plain.visits(), 0);
        Check.outOfBounds("earth(0, 1)", () -> plain.earth(0, 1));
        Check.same("after a refused call", plain.visits(), 0);
        plain.pile(0, 1);
        plain.layOut(1, 1);
        Check.same("laid out again", plain.visits(), 0);
        plain.top(0, 0);
        Check.illegalArgument("layOut(0, 1)", () -> plain.layOut(0, 1));
        Check.same("not laid out", plain.visits(), 1);
    }

    private static void allSinceLaidOut() {
        Check.sentence("Returns how many visits there were since the plain was laid out");
        PressedPlains plain = new PressedPlains();
        Check.same("at first", plain.allVisits(), 0);
        plain.pile(0, 1);
        plain.lower(0, 0, 0);
        plain.earth(0, 0);
        plain.top(0, 0);
        Check.same("one for each call", plain.allVisits(), 4);
        plain.layOut(64, 5);
        Check.same("laid out", plain.allVisits(), 0);
        for (int call = 1; call <= 500; call++) {
            plain.earth(1, 62);
        }
        Check.same("500 dear calls", plain.allVisits(), 11500);
        Check.illegalArgument("layOut(64, -1)", () -> plain.layOut(64, -1));
        Check.same("not laid out", plain.allVisits(), 11500);
    }

    private static void averageWithoutACall() {
        Check.sentence("0.0 without one");
        PressedPlains plain = new PressedPlains();
        Check.same("at first", plain.meanVisits(), 0.0);
        Check.outOfBounds("top(0, 1)", () -> plain.top(0, 1));
        Check.same("after a refused call", plain.meanVisits(), 0.0);
        plain.pile(0, 1);
        Check.same("after one", plain.meanVisits(), 1.0);
        plain.layOut(1, 1);
        Check.same("laid out", plain.meanVisits(), 0.0);
    }

    private static void averageAsADouble() {
        Check.sentence("all visits, as a double, divided by the number of these calls");
        PressedPlains plain = Plains.flat(2, 5);
        plain.earth(0, 1);
        plain.pile(0, 1);
        Check.same("one and a half", plain.meanVisits(), 1.5);
        plain.pile(0, 1);
        Check.same("five thirds", plain.meanVisits(), 5.0 / 3.0);
        plain.lower(0, 1, 1000);
        plain.lower(0, 1, 1000);
        plain.top(0, 1);
        plain.top(0, 1);
        Check.same("nine sevenths", plain.meanVisits(), 9.0 / 7.0);
    }

    private static void averageOfTheseCallsAlone() {
        Check.sentence("the visits that a call made which came to entries");
        PressedPlains plain = Plains.flat(2, 5);
        plain.earth(0, 0);
        plain.columns();
        plain.wouldPress(0, 1, 0);
        plain.meanVisits();
        Check.illegalArgument("lower(1, 0, 5)", () -> plain.lower(1, 0, 5));
        Check.illegalState("pile(0, 1000)", () -> plain.pile(0, 1000));
        Check.same("only the one", plain.meanVisits(), 3.0);
        plain.lower(0, 1, 5);
        Check.same("one in vain counts", plain.meanVisits(), 2.0);
    }

    private static void averageSinceLaidOut() {
        Check.sentence("the number of these calls since the plain was laid out");
        PressedPlains plain = Plains.flat(2, 5);
        plain.earth(0, 1);
        plain.earth(0, 1);
        plain.layOut(2, 5);
        plain.earth(0, 0);
        Check.same("the one since then", plain.meanVisits(), 3.0);
        Check.illegalArgument("layOut(2, 1001)", () -> plain.layOut(2, 1001));
        plain.earth(0, 1);
        Check.same("not laid out", plain.meanVisits(), 2.0);
    }

    private static void pressedCallByCall() {
        Check.sentence("as it was told call by call", "pressedAway");
        PressedPlains plain = Plains.of(8, 3, 8, 2);
        Check.same("none", plain.pressedAway(), 0);
        int told = plain.lower(0, 3, 8);
        Check.same("none by a ceiling in vain", plain.pressedAway(), 0);
        told += plain.lower(2, 2, 7);
        Check.same("a grain", plain.pressedAway(), 1);
        told += plain.lower(0, 3, 3) + plain.lower(0, 1, 1) + plain.lower(0, 3, 0);
        Check.same("all", plain.pressedAway(), 21);
        Check.same("as told", told, 21);
        plain.wouldPress(0, 3, 0);
        Check.illegalArgument("lower(0, 3, 1001)", () -> plain.lower(0, 3, 1001));
        Check.same("no more", plain.pressedAway(), 21);
    }

    private static void pressedSinceLaidOut() {
        Check.sentence("Returns the earth that was pressed away since the plain was laid out");
        PressedPlains plain = Plains.flat(64, 1000);
        plain.lower(0, 63, 0);
        Check.same("all there can be", plain.pressedAway(), 64000);
        Check.illegalArgument("layOut(1, -1)", () -> plain.layOut(1, -1));
        Check.same("not laid out", plain.pressedAway(), 64000);
        plain.layOut(64, 1000);
        Check.same("laid out", plain.pressedAway(), 0);
        Check.same("by the rest", plain.pressedAwayByRest(), 0);
    }

    private static void pressedMoreThanLiesThere() {
        Check.sentence("Returns the earth that was pressed away", "more than ever lay there");
        PressedPlains plain = new PressedPlains();
        for (int round = 1; round <= 250; round++) {
            plain.pile(0, 1000);
            plain.lower(0, 0, 0);
        }
        Check.same("250 times the most", plain.pressedAway(), 250000);
        Check.same("by the rest", plain.pressedAwayByRest(), 250000);
    }

    private static void toldByTheRest() {
        Check.sentence("told by what was laid out and piled up, and what lies there");
        PressedPlains plain = new PressedPlains();
        Check.same("nothing at all", plain.pressedAwayByRest(), 0);
        plain.layOut(64, 1000);
        Check.same("all lies there", plain.pressedAwayByRest(), 0);
        plain.lower(0, 63, 0);
        Check.same("nothing lies there", plain.pressedAwayByRest(), 64000);
        plain.pile(63, 1);
        Check.same("what was piled lies there", plain.pressedAwayByRest(), 64000);
        plain.lower(63, 63, 0);
        Check.same("what was piled is gone, too", plain.pressedAwayByRest(), 64001);
        plain = Plains.lagging();
        Check.same("while entries lag", plain.pressedAwayByRest(), 6);
    }

    private static void toldByTheRestAfterRefusals() {
        Check.sentence("told by what was laid out and piled up", "not by what was refused");
        PressedPlains plain = Plains.flat(2, 999);
        Check.illegalState("pile(0, 2)", () -> plain.pile(0, 2));
        Check.illegalArgument("pile(0, 1001)", () -> plain.pile(0, 1001));
        Check.outOfBounds("pile(2, 1)", () -> plain.pile(2, 1));
        Check.illegalArgument("layOut(3, 1001)", () -> plain.layOut(3, 1001));
        Check.same("nothing is gone", plain.pressedAwayByRest(), 0);
        Check.same("nor told", plain.pressedAway(), 0);
    }
}
