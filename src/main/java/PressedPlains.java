import java.util.NoSuchElementException;

/** A plain of earth in columns, pressed under ceilings that are lowered over parts of it. */
public final class PressedPlains {
    private static final int MOST_COLUMNS = 64;
    private static final int MOST_HEIGHT = 1000;
    private static final int MOST_EARTH = MOST_COLUMNS * MOST_HEIGHT;
    private static final int NONE = -1;

    private final Book book;
    private final Ground ground;
    private int pressedSoFar;

    public PressedPlains() {
        book = new Book();
        ground = new Ground();
        book.renew(1, 0);
        ground.renew(1, 0);
        pressedSoFar = 0;
    }

    public int layOut(int columns, int height) throws IllegalArgumentException {
        requireInRange(columns, 1, MOST_COLUMNS);
        requireInRange(height, 0, MOST_HEIGHT);
        book.renew(columns, height);
        ground.renew(columns, height);
        pressedSoFar = 0;
        return columns * height;
    }

    public int pile(int column, int earth)
            throws IndexOutOfBoundsException, IllegalArgumentException, IllegalStateException {
        requireColumn(column);
        requireInRange(earth, 1, MOST_HEIGHT);
        int raised = ground.heights[column] + earth;
        if (raised > MOST_HEIGHT) {
            throw new IllegalStateException("the column would be too high");
        }
        ground.raise(column, earth);
        book.raise(column, raised);
        return raised;
    }

    public int lower(int from, int to, int ceiling)
            throws IndexOutOfBoundsException, IllegalArgumentException {
        requireSpan(from, to);
        requireInRange(ceiling, 0, MOST_HEIGHT);
        int pressed = book.press(from, to, ceiling);
        ground.press(from, to, ceiling);
        pressedSoFar += pressed;
        return pressed;
    }

    public int earth(int from, int to) throws IndexOutOfBoundsException, IllegalArgumentException {
        requireSpan(from, to);
        return book.askSum(from, to);
    }

    public int earthByColumns(int from, int to)
            throws IndexOutOfBoundsException, IllegalArgumentException {
        requireSpan(from, to);
        return ground.earthAbove(from, to, 0);
    }

    public int top(int from, int to) throws IndexOutOfBoundsException, IllegalArgumentException {
        requireSpan(from, to);
        return book.askGreatest(from, to);
    }

    public int height(int column) throws IndexOutOfBoundsException {
        requireColumn(column);
        return book.leastGreatestOver(column);
    }

    public int heightOfColumn(int column) throws IndexOutOfBoundsException {
        requireColumn(column);
        return ground.heights[column];
    }

    public int wouldPress(int from, int to, int ceiling)
            throws IndexOutOfBoundsException, IllegalArgumentException {
        requireSpan(from, to);
        requireInRange(ceiling, 0, MOST_HEIGHT);
        return ground.earthAbove(from, to, ceiling);
    }

    public int ceilingFor(int from, int to, int earth)
            throws IndexOutOfBoundsException, IllegalArgumentException, NoSuchElementException {
        requireSpan(from, to);
        requireInRange(earth, 1, MOST_EARTH);
        int ceiling = ground.highestCeilingFor(from, to, earth);
        if (ceiling == NONE) {
            throw new NoSuchElementException("there is not so much earth");
        }
        return ceiling;
    }

    public int ceilingOver(int column) throws IndexOutOfBoundsException, NoSuchElementException {
        requireColumn(column);
        int ceiling = ground.ceilings[column];
        if (ceiling == NONE) {
            throw new NoSuchElementException("no ceiling was lowered there");
        }
        return ceiling;
    }

    // ---- the book

    public int columns() {
        return ground.count;
    }

    public int spanOf(int entry) throws IndexOutOfBoundsException {
        requireEntry(entry);
        return 100 * book.first[entry] + book.last[entry];
    }

    public int greatest(int entry) throws IndexOutOfBoundsException {
        requireEntry(entry);
        return book.greatest[entry];
    }

    public int second(int entry) throws IndexOutOfBoundsException {
        requireEntry(entry);
        return book.second[entry];
    }

    public int many(int entry) throws IndexOutOfBoundsException {
        requireEntry(entry);
        return book.many[entry];
    }

    public int noted(int entry) throws IndexOutOfBoundsException {
        requireEntry(entry);
        return book.sum[entry];
    }

    public int lagging() {
        return book.countLagging();
    }

    public int visits() {
        return book.latestVisits;
    }

    public int allVisits() {
        return book.totalVisits;
    }

    // ---- earth

    public int pressedAway() {
        return pressedSoFar;
    }

    public int pressedAwayByRest() {
        return ground.given - ground.earthAbove(0, ground.count - 1, 0);
    }

    public double meanVisits() {
        if (book.calls == 0) {
            return 0.0;
        }
        return (double) book.totalVisits / (double) book.calls;
    }

    private void requireColumn(int column) {
        if (column < 0 || column >= ground.count) {
            throw new IndexOutOfBoundsException("there is no such column");
        }
    }

    private void requireSpan(int from, int to) {
        requireColumn(from);
        requireColumn(to);
        if (to < from) {
            throw new IllegalArgumentException("the last column is before the first");
        }
    }

    private void requireEntry(int entry) {
        if (!book.has(entry)) {
            throw new IndexOutOfBoundsException("there is no such entry");
        }
    }

    private static void requireInRange(int value, int least, int most) {
        if (value < least || value > most) {
            throw new IllegalArgumentException("a number is out of range");
        }
    }

    /** The columns, kept one by one beside the book. */
    private static final class Ground {
        // Halving from here reaches every ceiling from 0 to 1023, so each one up to 1000.
        private static final int WIDEST_STEP = 512;

        private final int[] heights = new int[MOST_COLUMNS];
        private final int[] ceilings = new int[MOST_COLUMNS];
        private int count;
        private int given;

        void renew(int columns, int height) {
            count = columns;
            given = columns * height;
            for (int column = 0; column < MOST_COLUMNS; column++) {
                heights[column] = column < columns ? height : 0;
                ceilings[column] = NONE;
            }
        }

        void raise(int column, int earth) {
            heights[column] += earth;
            ceilings[column] = NONE;
            given += earth;
        }

        void press(int from, int to, int ceiling) {
            for (int column = from; column <= to; column++) {
                heights[column] = Math.min(heights[column], ceiling);
                if (ceilings[column] == NONE || ceiling < ceilings[column]) {
                    ceilings[column] = ceiling;
                }
            }
        }

        int earthAbove(int from, int to, int ceiling) {
            int earth = 0;
            for (int column = from; column <= to; column++) {
                earth += Math.max(heights[column] - ceiling, 0);
            }
            return earth;
        }

        /** Halves its steps, since a higher ceiling never presses more away. */
        int highestCeilingFor(int from, int to, int earth) {
            if (earthAbove(from, to, 0) < earth) {
                return NONE;
            }
            int ceiling = 0;
            for (int step = WIDEST_STEP; step > 0; step /= 2) {
                if (earthAbove(from, to, ceiling + step) >= earth) {
                    ceiling += step;
                }
            }
            return ceiling;
        }
    }

    /** The book of spans: what an entry has noted stands at its number in each row. */
    private static final class Book {
        // 64 columns are halved six times at most, so no entry's number reaches 128.
        private static final int ROW = 2 * MOST_COLUMNS;

        private final int[] first = new int[ROW];
        private final int[] last = new int[ROW];
        private final int[] greatest = new int[ROW];
        private final int[] second = new int[ROW];
        private final int[] many = new int[ROW];
        private final int[] sum = new int[ROW];
        private int latestVisits;
        private int totalVisits;
        private int calls;

        void renew(int columns, int height) {
            setSpan(1, 0, columns - 1);
            for (int entry = 1; entry < MOST_COLUMNS; entry++) {
                splitSpan(entry);
            }
            for (int entry = 1; entry < ROW; entry++) {
                int width = last[entry] - first[entry] + 1;
                greatest[entry] = height;
                second[entry] = NONE;
                many[entry] = width;
                sum[entry] = width * height;
            }
            latestVisits = 0;
            totalVisits = 0;
            calls = 0;
        }

        boolean has(int entry) {
            return entry >= 1 && entry < ROW && last[entry] != NONE;
        }

        int press(int from, int to, int ceiling) {
            beginCall();
            int before = sum[1];
            pressFrom(1, from, to, ceiling);
            return before - sum[1];
        }

        void raise(int column, int height) {
            beginCall();
            raiseFrom(1, column, height);
        }

        int askSum(int from, int to) {
            beginCall();
            return sumFrom(1, from, to);
        }

        int askGreatest(int from, int to) {
            beginCall();
            return greatestFrom(1, from, to);
        }

        int leastGreatestOver(int column) {
            int least = greatest[1];
            for (int entry = 2; entry < ROW; entry++) {
                if (has(entry) && !isApart(entry, column, column)) {
                    least = Math.min(least, greatest[entry]);
                }
            }
            return least;
        }

        int countLagging() {
            int count = 0;
            for (int entry = 2; entry < ROW; entry++) {
                if (has(entry) && lags(entry)) {
                    count++;
                }
            }
            return count;
        }

        private void setSpan(int entry, int from, int to) {
            first[entry] = from;
            last[entry] = to;
        }

        private void splitSpan(int entry) {
            if (hasParts(entry)) {
                int middle = (first[entry] + last[entry]) / 2;
                setSpan(2 * entry, first[entry], middle);
                setSpan(2 * entry + 1, middle + 1, last[entry]);
            } else {
                setSpan(2 * entry, 0, NONE);
                setSpan(2 * entry + 1, 0, NONE);
            }
        }

        /** Also bounds the depth: an entry from 64 on has no room below it. */
        private boolean hasParts(int entry) {
            return entry < MOST_COLUMNS && first[entry] < last[entry];
        }

        private boolean isApart(int entry, int from, int to) {
            return last[entry] < from || first[entry] > to;
        }

        private boolean isWithin(int entry, int from, int to) {
            return from <= first[entry] && last[entry] <= to;
        }

        private boolean lags(int entry) {
            return greatest[entry] > greatest[entry / 2];
        }

        private void beginCall() {
            calls++;
            latestVisits = 0;
        }

        private void countVisit() {
            latestVisits++;
            totalVisits++;
        }

        private void pressFrom(int entry, int from, int to, int ceiling) {
            countVisit();
            if (isApart(entry, from, to) || greatest[entry] <= ceiling) {
                return;
            }
            boolean isEasy = isWithin(entry, from, to) && second[entry] < ceiling;
            if (isEasy || !hasParts(entry)) {
                pressDown(entry, ceiling);
                return;
            }
            catchUpBelow(entry);
            pressFrom(2 * entry, from, to, ceiling);
            pressFrom(2 * entry + 1, from, to, ceiling);
            tellAnew(entry);
        }

        private void raiseFrom(int entry, int column, int height) {
            countVisit();
            if (!hasParts(entry)) {
                greatest[entry] = height;
                sum[entry] = height;
                return;
            }
            catchUpBelow(entry);
            boolean isInFirst = column <= last[2 * entry];
            raiseFrom(isInFirst ? 2 * entry : 2 * entry + 1, column, height);
            tellAnew(entry);
        }

        private int sumFrom(int entry, int from, int to) {
            countVisit();
            if (isApart(entry, from, to)) {
                return 0;
            }
            if (isWithin(entry, from, to) || !hasParts(entry)) {
                return sum[entry];
            }
            catchUpBelow(entry);
            return sumFrom(2 * entry, from, to) + sumFrom(2 * entry + 1, from, to);
        }

        private int greatestFrom(int entry, int from, int to) {
            countVisit();
            if (isApart(entry, from, to)) {
                return NONE;
            }
            if (isWithin(entry, from, to) || !hasParts(entry)) {
                return greatest[entry];
            }
            catchUpBelow(entry);
            return Math.max(
                    greatestFrom(2 * entry, from, to), greatestFrom(2 * entry + 1, from, to));
        }

        private void pressDown(int entry, int ceiling) {
            sum[entry] -= (greatest[entry] - ceiling) * many[entry];
            greatest[entry] = ceiling;
        }

        private void catchUpBelow(int entry) {
            catchUp(2 * entry);
            catchUp(2 * entry + 1);
        }

        private void catchUp(int entry) {
            if (lags(entry)) {
                pressDown(entry, greatest[entry / 2]);
            }
        }

        private void tellAnew(int entry) {
            int one = 2 * entry;
            int other = one + 1;
            int top = Math.max(greatest[one], greatest[other]);
            greatest[entry] = top;
            many[entry] = manyAt(one, top) + manyAt(other, top);
            second[entry] = Math.max(greatestLessThan(top, one), greatestLessThan(top, other));
            sum[entry] = sum[one] + sum[other];
        }

        private int manyAt(int entry, int top) {
            return greatest[entry] == top ? many[entry] : 0;
        }

        /** Its second height is always less than its greatest one, so one test is enough. */
        private int greatestLessThan(int top, int entry) {
            return greatest[entry] < top ? greatest[entry] : second[entry];
        }
    }
}
