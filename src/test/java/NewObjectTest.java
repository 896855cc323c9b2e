/** Promise 1. */
public final class NewObjectTest {
    public static void main(String[] args) {
        PressedPlains plain = new PressedPlains();
        Check.same("columns", plain.columns(), 1);
        Check.same("height(0)", plain.height(0), 0);
        Check.same("heightOfColumn(0)", plain.heightOfColumn(0), 0);
        Check.same("spanOf(1)", plain.spanOf(1), 0);
        Check.same("greatest(1)", plain.greatest(1), 0);
        Check.same("second(1)", plain.second(1), -1);
        Check.same("many(1)", plain.many(1), 1);
        Check.same("noted(1)", plain.noted(1), 0);
        Check.same("lagging", plain.lagging(), 0);
        Check.same("visits", plain.visits(), 0);
        Check.same("allVisits", plain.allVisits(), 0);
        Check.same("meanVisits", plain.meanVisits(), 0.0);
        Check.same("pressedAway", plain.pressedAway(), 0);
        Check.same("pressedAwayByRest", plain.pressedAwayByRest(), 0);
        Check.noSuchElement("ceilingOver(0)", () -> plain.ceilingOver(0));
        Check.outOfBounds("height(1)", () -> plain.height(1));
        Check.outOfBounds("spanOf(2)", () -> plain.spanOf(2));

        PressedPlains other = new PressedPlains();
        other.layOut(3, 7);
        Check.same("columns beside another object", plain.columns(), 1);
        Check.same("height beside another object", plain.height(0), 0);
        Check.end();
    }
}
