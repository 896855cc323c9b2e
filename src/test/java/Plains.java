/** Plains that several tests begin with. */
final class Plains {
    private Plains() {
    }

    /** A plain whose columns have these heights, each piled up at once from nothing. */
    static PressedPlains of(int... heights) {
        PressedPlains plain = new PressedPlains();
        plain.layOut(heights.length, 0);
        for (int column = 0; column < heights.length; column++) {
            if (heights[column] > 0) {
                plain.pile(column, heights[column]);
            }
        }
        return plain;
    }

    static PressedPlains flat(int columns, int height) {
        PressedPlains plain = new PressedPlains();
        plain.layOut(columns, height);
        return plain;
    }

    /** 5 3 5 2, where the entries 2 and 3 lag, so that coming to entry 1 would show. */
    static PressedPlains lagging() {
        PressedPlains plain = of(8, 3, 8, 2);
        plain.lower(0, 3, 5);
        return plain;
    }
}
