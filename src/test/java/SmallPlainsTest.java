/**
 * Every plain of one to three columns from 0 to 2 high, after every two calls that come to entries,
 * compared with the model: the edges of the heights meet each other here in every way.
 */
public final class SmallPlainsTest {
    private static final int MOST = 2;

    /** One call: 0 lower, 1 pile, 2 earth, 3 top; what it does not need stays 0. */
    private record Call(int kind, int from, int to, int number) {
    }

    public static void main(String[] args) {
        for (int columns = 1; columns <= 3; columns++) {
            java.util.List<Call> calls = callsOn(columns);
            int plains = (int) Math.round(Math.pow(MOST + 1, columns));
            for (int plain = 0; plain < plains; plain++) {
                runEveryPair(heightsOf(plain, columns), calls);
            }
        }
        Check.end();
    }

    private static java.util.List<Call> callsOn(int columns) {
        java.util.List<Call> calls = new java.util.ArrayList<>();
        for (int from = 0; from < columns; from++) {
            calls.add(new Call(1, from, from, 1));
            for (int to = from; to < columns; to++) {
                calls.add(new Call(2, from, to, 0));
                calls.add(new Call(3, from, to, 0));
                for (int ceiling = 0; ceiling <= MOST; ceiling++) {
                    calls.add(new Call(0, from, to, ceiling));
                }
            }
        }
        return calls;
    }

    /** The digits of the plain's number are its heights. */
    private static int[] heightsOf(int plain, int columns) {
        int[] heights = new int[columns];
        int rest = plain;
        for (int column = 0; column < columns; column++) {
            heights[column] = rest % (MOST + 1);
            rest /= MOST + 1;
        }
        return heights;
    }

    private static void runEveryPair(int[] heights, java.util.List<Call> calls) {
        for (Call first : calls) {
            for (Call second : calls) {
                String name = java.util.Arrays.toString(heights) + " " + first + " " + second;
                PressedPlains plain = Plains.of(heights);
                Model model = modelOf(heights);
                Check.same(name + ", first", ask(plain, first), ask(model, first));
                Check.same(name + ", second", ask(plain, second), ask(model, second));
                Check.same(name + " left", Snapshot.of(plain), model.tell());
            }
        }
    }

    private static Model modelOf(int[] heights) {
        Model model = new Model(heights.length, 0);
        for (int column = 0; column < heights.length; column++) {
            if (heights[column] > 0) {
                model.pile(column, heights[column]);
            }
        }
        return model;
    }

    private static int ask(PressedPlains plain, Call call) {
        return switch (call.kind()) {
            case 0 -> plain.lower(call.from(), call.to(), call.number());
            case 1 -> plain.pile(call.from(), call.number());
            case 2 -> plain.earth(call.from(), call.to());
            default -> plain.top(call.from(), call.to());
        };
    }

    private static int ask(Model model, Call call) {
        return switch (call.kind()) {
            case 0 -> model.lower(call.from(), call.to(), call.number());
            case 1 -> model.pile(call.from(), call.number());
            case 2 -> model.askEarth(call.from(), call.to());
            default -> model.askTop(call.from(), call.to());
        };
    }
}
