/** Promises 22 and 23. */
public final class PressedAwayTest {
    public static void main(String[] args) {
        addsUp();
        leavesOutWhatDoesNotPress();
        Check.end();
    }

    private static void addsUp() {
        PressedPlains plain = new PressedPlains();
        plain.layOut(8, 100);
        sameBothWays("laid out", plain, 0);
        plain.lower(0, 7, 90);
        sameBothWays("all columns", plain, 80);
        plain.pile(3, 50);
        sameBothWays("piled", plain, 80);
        plain.lower(2, 3, 90);
        sameBothWays("the pile", plain, 130);
        plain.lower(0, 7, 0);
        sameBothWays("everything", plain, 850);
        plain.layOut(3, 7);
        sameBothWays("laid out again", plain, 0);
        plain.lower(0, 0, 6);
        sameBothWays("one", plain, 1);
    }

    private static void leavesOutWhatDoesNotPress() {
        PressedPlains plain = new PressedPlains();
        plain.layOut(64, 1000);
        plain.lower(0, 63, 1000);
        plain.wouldPress(0, 63, 0);
        plain.ceilingFor(0, 63, 64000);
        plain.earth(0, 62);
        plain.top(0, 62);
        Check.illegalArgument("lower(0, 63, -1)", () -> plain.lower(0, 63, -1));
        Check.illegalState("pile(0, 1)", () -> plain.pile(0, 1));
        sameBothWays("nothing", plain, 0);
        for (int round = 0; round < 200; round++) {
            plain.lower(0, 0, 0);
            plain.pile(0, 1000);
        }
        sameBothWays("more than lies there", plain, 200000);
    }

    private static void sameBothWays(String what, PressedPlains plain, int due) {
        Check.same(what + ": pressedAway", plain.pressedAway(), due);
        Check.same(what + ": by rest", plain.pressedAwayByRest(), due);
    }
}
