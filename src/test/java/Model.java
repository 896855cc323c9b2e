/**
 * The document's words told a second time, as a tree of entries with the columns' true heights
 * beside it, so that a mistake would have to be made twice to go unseen.
 */
final class Model {
    private static final class Entry {
        int from;
        int to;
        int greatest;
        int second;
        int many;
        int sum;
        Entry above;
        Entry one;
        Entry other;
    }

    private Entry[] entries;
    private int[] heights;
    private Integer[] ceilings;
    private int laidOut;
    private int piled;
    private int pressed;
    private int visits;
    private int allVisits;
    private int calls;

    Model(int columns, int height) {
        entries = new Entry[1000];
        heights = new int[columns];
        java.util.Arrays.fill(heights, height);
        ceilings = new Integer[columns];
        laidOut = columns * height;
        make(1, 0, columns - 1, null);
    }

    private Entry make(int number, int from, int to, Entry above) {
        Entry entry = new Entry();
        entries[number] = entry;
        entry.from = from;
        entry.to = to;
        entry.above = above;
        entry.greatest = heights[from];
        entry.second = -1;
        entry.many = to - from + 1;
        entry.sum = entry.many * heights[from];
        if (from < to) {
            int middle = (from + to) / 2;
            entry.one = make(2 * number, from, middle, entry);
            entry.other = make(2 * number + 1, middle + 1, to, entry);
        }
        return entry;
    }

    int heightOf(int column) {
        return heights[column];
    }

    int pile(int column, int earth) {
        heights[column] += earth;
        ceilings[column] = null;
        piled += earth;
        begin();
        pileAt(entries[1], column);
        return heights[column];
    }

    int lower(int from, int to, int ceiling) {
        int before = earth(from, to);
        for (int column = from; column <= to; column++) {
            heights[column] = Math.min(heights[column], ceiling);
            Integer lowest = ceilings[column];
            ceilings[column] = lowest == null ? ceiling : Integer.valueOf(Math.min(lowest, ceiling));
        }
        begin();
        lowerAt(entries[1], from, to, ceiling);
        int gone = before - earth(from, to);
        pressed += gone;
        return gone;
    }

    int askEarth(int from, int to) {
        begin();
        askAt(entries[1], from, to);
        return earth(from, to);
    }

    int askTop(int from, int to) {
        begin();
        askAt(entries[1], from, to);
        int top = 0;
        for (int column = from; column <= to; column++) {
            top = Math.max(top, heights[column]);
        }
        return top;
    }

    int earth(int from, int to) {
        return wouldPress(from, to, 0);
    }

    int wouldPress(int from, int to, int ceiling) {
        int earth = 0;
        for (int column = from; column <= to; column++) {
            earth += heights[column] > ceiling ? heights[column] - ceiling : 0;
        }
        return earth;
    }

    /** -1 if there is not so much earth. */
    int ceilingFor(int from, int to, int earth) {
        int ceiling = 1000;
        while (ceiling >= 0 && wouldPress(from, to, ceiling) < earth) {
            ceiling--;
        }
        return ceiling;
    }

    /** In the very words of Snapshot. */
    String tell() {
        StringBuilder text = new StringBuilder();
        text.append("columns ").append(heights.length).append('\n');
        for (int column = 0; column < heights.length; column++) {
            String ceiling = ceilings[column] == null ? "none" : ceilings[column].toString();
            text.append("column ").append(column).append(" height ").append(heights[column])
                    .append(" kept ").append(heights[column])
                    .append(" ceiling ").append(ceiling).append('\n');
        }
        int lagging = 0;
        for (int number = 1; number < 128; number++) {
            Entry entry = entries[number];
            if (entry == null) {
                text.append("entry ").append(number).append(" is not there\n");
                continue;
            }
            lagging += lags(entry) ? 1 : 0;
            text.append("entry ").append(number)
                    .append(" span ").append(entry.from * 100 + entry.to)
                    .append(" greatest ").append(entry.greatest)
                    .append(" second ").append(entry.second)
                    .append(" many ").append(entry.many)
                    .append(" sum ").append(entry.sum).append('\n');
        }
        double mean = calls == 0 ? 0.0 : (double) allVisits / calls;
        text.append("lagging ").append(lagging).append(" visits ").append(visits)
                .append(" all ").append(allVisits).append(" mean ").append(mean)
                .append(" pressed ").append(pressed)
                .append(" by rest ").append(laidOut + piled - earth(0, heights.length - 1));
        return text.toString();
    }

    private void begin() {
        visits = 0;
        calls++;
    }

    private void visit() {
        visits++;
        allVisits++;
    }

    private static boolean lags(Entry entry) {
        return entry.above != null && entry.greatest > entry.above.greatest;
    }

    private static void pressDown(Entry entry, int to) {
        if (entry.second >= to || entry.greatest <= to) {
            throw new AssertionError("an entry can't be pressed down to this height");
        }
        entry.sum -= entry.many * (entry.greatest - to);
        entry.greatest = to;
    }

    private static void catchUp(Entry above) {
        for (Entry entry : new Entry[] {above.one, above.other}) {
            if (lags(entry)) {
                pressDown(entry, above.greatest);
            }
        }
    }

    private static void tellAnew(Entry entry) {
        Entry one = entry.one;
        Entry other = entry.other;
        entry.greatest = Math.max(one.greatest, other.greatest);
        entry.many = one.greatest > other.greatest ? one.many
                : one.greatest < other.greatest ? other.many : one.many + other.many;
        entry.second = -1;
        for (int height : new int[] {one.greatest, one.second, other.greatest, other.second}) {
            if (height < entry.greatest && height > entry.second) {
                entry.second = height;
            }
        }
        entry.sum = one.sum + other.sum;
    }

    private void pileAt(Entry entry, int column) {
        visit();
        if (entry.from == entry.to) {
            entry.greatest = heights[column];
            entry.sum = heights[column];
            return;
        }
        catchUp(entry);
        pileAt(column <= entry.one.to ? entry.one : entry.other, column);
        tellAnew(entry);
    }

    private void lowerAt(Entry entry, int from, int to, int ceiling) {
        visit();
        if (entry.to < from || entry.from > to || entry.greatest <= ceiling) {
            return;
        }
        if (from <= entry.from && entry.to <= to && entry.second < ceiling) {
            pressDown(entry, ceiling);
            return;
        }
        catchUp(entry);
        lowerAt(entry.one, from, to, ceiling);
        lowerAt(entry.other, from, to, ceiling);
        tellAnew(entry);
    }

    private void askAt(Entry entry, int from, int to) {
        visit();
        if (entry.to < from || entry.from > to || from <= entry.from && entry.to <= to) {
            return;
        }
        catchUp(entry);
        askAt(entry.one, from, to);
        askAt(entry.other, from, to);
    }
}
