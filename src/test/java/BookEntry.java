/** What the document says of one entry, looked at in one go. */
final class BookEntry {
    private BookEntry() {
    }

    static void same(PressedPlains plain, int entry, int greatest, int second, int many, int sum) {
        Check.same("greatest(" + entry + ")", plain.greatest(entry), greatest);
        Check.same("second(" + entry + ")", plain.second(entry), second);
        Check.same("many(" + entry + ")", plain.many(entry), many);
        Check.same("noted(" + entry + ")", plain.noted(entry), sum);
    }

    static void span(PressedPlains plain, int entry, int first, int last) {
        Check.same("spanOf(" + entry + ")", plain.spanOf(entry), 100L * first + last);
    }

    static void isNone(PressedPlains plain, int entry) {
        Refused.outOfBounds("spanOf(" + entry + ")", plain, () -> plain.spanOf(entry));
        Refused.outOfBounds("greatest(" + entry + ")", plain, () -> plain.greatest(entry));
        Refused.outOfBounds("second(" + entry + ")", plain, () -> plain.second(entry));
        Refused.outOfBounds("many(" + entry + ")", plain, () -> plain.many(entry));
        Refused.outOfBounds("noted(" + entry + ")", plain, () -> plain.noted(entry));
    }
}
