/** Plains that several tests begin with. */
final class Plains {
    private Plains() {
    }

    /** A plain whose columns have these heights, each piled up at once from nothing. */
    static PressedPlains of(int... heights) {
        PressedPlains plain = new PressedPlains();
        plain.layOut(heights.length, 0);
        for (int column = 0; column < heights.length; column++) {
            if (heights[column] > 0) {
                plain.pile(column, heights[column]);
            }
        }
        return plain;
    }
}
