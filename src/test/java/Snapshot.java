import java.util.NoSuchElementException;

/** All that a plain tells without coming to an entry, as one text. */
final class Snapshot {
    private Snapshot() {
    }

    static String of(PressedPlains plain) {
        StringBuilder text = new StringBuilder();
        text.append("columns ").append(plain.columns()).append('\n');
        for (int column = 0; column < plain.columns(); column++) {
            text.append("column ").append(column)
                    .append(" height ").append(plain.height(column))
                    .append(" kept ").append(plain.heightOfColumn(column))
                    .append(" ceiling ").append(ceilingOver(plain, column)).append('\n');
        }
        for (int entry = 1; entry < 128; entry++) {
            addEntry(text, plain, entry);
        }
        text.append("lagging ").append(plain.lagging())
                .append(" visits ").append(plain.visits())
                .append(" all ").append(plain.allVisits())
                .append(" mean ").append(plain.meanVisits())
                .append(" pressed ").append(plain.pressedAway())
                .append(" by rest ").append(plain.pressedAwayByRest());
        return text.toString();
    }

    private static String ceilingOver(PressedPlains plain, int column) {
        try {
            return Integer.toString(plain.ceilingOver(column));
        } catch (NoSuchElementException e) {
            return "none";
        }
    }

    private static void addEntry(StringBuilder text, PressedPlains plain, int entry) {
        text.append("entry ").append(entry);
        int span;
        try {
            span = plain.spanOf(entry);
        } catch (IndexOutOfBoundsException e) {
            text.append(" is not there\n");
            return;
        }
        text.append(" span ").append(span)
                .append(" greatest ").append(plain.greatest(entry))
                .append(" second ").append(plain.second(entry))
                .append(" many ").append(plain.many(entry))
                .append(" sum ").append(plain.noted(entry)).append('\n');
    }
}
