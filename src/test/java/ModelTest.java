import java.util.NoSuchElementException;

/** Long runs of calls, all of whose answers and states are compared with those of the model. */
public final class ModelTest {
    private static final int CALLS = 512;

    private long seed;

    private ModelTest(long seed) {
        this.seed = seed;
    }

    public static void main(String[] args) {
        for (int columns = 1; columns <= 64; columns++) {
            new ModelTest(columns).run(columns, 1000);
            new ModelTest(1000 + columns).run(columns, 6);
        }
        Check.end();
    }

    /** The same numbers at each run of the test. */
    private int next(int bound) {
        seed = seed * 6364136223846793005L + 1442695040888963407L;
        return (int) ((seed >>> 33) % bound);
    }

    private void run(int columns, int most) {
        int height = next(most + 1);
        PressedPlains plain = new PressedPlains();
        plain.layOut(columns, height);
        Model model = new Model(columns, height);
        for (int call = 0; call < CALLS; call++) {
            String name = columns + " columns, call " + call;
            step(name, plain, model, columns, most);
            Check.same(name + " left", Snapshot.of(plain), model.tell());
        }
    }

    private void step(String name, PressedPlains plain, Model model, int columns, int most) {
        int from = next(columns);
        int to = from + next(columns - from);
        int kind = next(10);
        if (kind < 3) {
            pile(name, plain, model, from, most);
        } else if (kind < 6) {
            int ceiling = next(most + 1);
            Check.same(name, plain.lower(from, to, ceiling), model.lower(from, to, ceiling));
        } else if (kind == 6) {
            Check.same(name, plain.earth(from, to), model.askEarth(from, to));
        } else if (kind == 7) {
            Check.same(name, plain.top(from, to), model.askTop(from, to));
        } else if (kind == 8) {
            int ceiling = next(most + 1);
            Check.same(name, plain.wouldPress(from, to, ceiling), model.wouldPress(from, to, ceiling));
            Check.same(name, plain.earthByColumns(from, to), model.earth(from, to));
        } else {
            int earth = 1 + next(most * (to - from + 1));
            Check.same(name, ceilingFor(plain, from, to, earth), model.ceilingFor(from, to, earth));
        }
    }

    private void pile(String name, PressedPlains plain, Model model, int column, int most) {
        int earth = 1 + next(most);
        if (model.heightOf(column) + earth > 1000) {
            Check.illegalState(name, () -> plain.pile(column, earth));
        } else {
            Check.same(name, plain.pile(column, earth), model.pile(column, earth));
        }
    }

    private static int ceilingFor(PressedPlains plain, int from, int to, int earth) {
        try {
            return plain.ceilingFor(from, to, earth);
        } catch (NoSuchElementException e) {
            return -1;
        }
    }
}
