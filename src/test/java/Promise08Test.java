/** Promise 8: type. */
final class Promise08Test {
    private static final long EIGHT_BLANKS = 0x2020202020202020L;

    public static void main(String[] args) throws ReflectiveOperationException {
        Due.run(Promise08Test.class);
    }

    private static CoatPockets typed(int bytes) {
        CoatPockets x = new CoatPockets();
        for (int has = 8; has <= bytes; has += 8) {
            Due.due("eight blanks", x.type(EIGHT_BLANKS, 8), has);
        }
        for (int has = bytes / 8 * 8 + 1; has <= bytes; has++) {
            Due.due("a blank", x.type(' ', 1), has);
        }
        return x;
    }

    @Says("The n lowest bytes (1 .. 8) of w")
    static void promise8FewestAndMost() {
        CoatPockets x = new CoatPockets();
        int has = 0;
        for (int n = 1; n <= 8; n++) {
            has += n;
            Due.due("type of " + n, x.type(EIGHT_BLANKS, n), has);
        }
    }

    @Says({"The n lowest bytes (1 .. 8) of w", "BAD: n"})
    static void promise8BadCount() {
        CoatPockets x = new CoatPockets();
        int[] none = {0, -1, 9, 10, Integer.MIN_VALUE, Integer.MAX_VALUE};
        for (int n : none) {
            Due.due("type(.., " + n + ")", x.type(EIGHT_BLANKS, n), -1);
        }
        Due.due("the tape is empty still", x.type(' ', 1), 1);
    }

    @Says("of these the highest first, come behind THE TAPE: how many it has.")
    static void promise8HighestIsFirst() {
        CoatPockets x = new CoatPockets();
        Due.due("5 6", x.type('5' << 8 | '6', 2), 2);
        Due.due("h 3 , 1", x.type((long) 'h' << 24 | '3' << 16 | ',' << 8 | '1', 4), 6);
        Due.due("school()", x.school(), 2);
        Due.coat("of 56h3", x, 0, 5, 2, 3, 0, 0, 5, 6, -4, -4);
        Due.due("eight at once", x.type(Due.packed("0123h1,7"), 8), 8);
        Due.due("school()", x.school(), 2);
        Due.coat("of 0123h1", x, 0, 0, 4, 1, 0, 0, 0, 1, 2, 3);
        Due.due("of(1, 0)", x.of(1, 0), 7);
    }

    @Says("The n lowest bytes (1 .. 8) of w")
    static void promise8HigherBytesDoNotCount() {
        CoatPockets x = new CoatPockets();
        Due.due("a byte below others", x.type(-1L << 8 | '7', 1), 1);
        Due.due("seven below another", x.type(0x0020202020202020L, 7), 8);
        Due.due("one of none above it", x.type(Long.MIN_VALUE | '6', 1), 9);
        Due.due("school()", x.school(), 1);
        Due.due("of(0, 6)", x.of(0, 6), 6);
    }

    @Says("a byte not 32 .. 126;")
    static void promise8LeastAndMostByte() {
        Due.due("32", new CoatPockets().type(32, 1), 1);
        Due.due("126", new CoatPockets().type(126, 1), 1);
        Due.due("32 and 126", new CoatPockets().type(0x7e20, 2), 2);
        Due.due("eight of 126", new CoatPockets().type(0x7e7e7e7e7e7e7e7eL, 8), 8);
    }

    @Says("a byte not 32 .. 126;")
    static void promise8BadByte() {
        CoatPockets x = new CoatPockets();
        int[] none = {0, 1, 31, 127, 128, 160, 176, 254, 255};
        for (int b : none) {
            Due.due("type(" + b + ", 1)", x.type(b, 1), -1);
            for (int at = 0; at < 8; at++) {
                long w = EIGHT_BLANKS & ~(255L << 8 * at) | (long) b << 8 * at;
                Due.due(b + " as byte " + at + " of eight", x.type(w, 8), -1);
                Due.due(b + " as the highest", x.type(w, at + 1), -1);
            }
        }
        Due.due("type(-1, 8)", x.type(-1L, 8), -1);
        Due.due("the tape is empty still", x.type(' ', 1), 1);
    }

    @Says({"FULL: 100.", "FULL -3"})
    static void promise8FullBehindAHundred() {
        CoatPockets x = typed(100);
        Due.due("one more", x.type(' ', 1), -3);
        Due.due("eight more", x.type(EIGHT_BLANKS, 8), -3);
        Due.due("how many there are", x.school(), -120);
        Due.due("it is empty then", x.type(' ', 1), 1);
    }

    @Says("FULL: 100.")
    static void promise8HundredExactly() {
        for (int n = 1; n <= 8; n++) {
            CoatPockets x = typed(100 - n);
            Due.due(n + " up to a hundred", x.type(EIGHT_BLANKS, n), 100);
        }
    }

    @Says({"FULL: 100.", "What is refused changes nothing, but as told."})
    static void promise8FullTypesNoneOfIt() {
        for (int n = 2; n <= 8; n++) {
            CoatPockets x = typed(101 - n);
            Due.due(n + " behind " + (101 - n), x.type(EIGHT_BLANKS, n), -3);
            Due.due("one less", x.type(EIGHT_BLANKS, n - 1), 100);
        }
    }

    @Says("BAD: n, a byte not 32 .. 126; FULL: 100.")
    static void promise8BadAheadOfFull() {
        CoatPockets x = typed(100);
        Due.due("none", x.type(' ', 0), -1);
        Due.due("nine", x.type(' ', 9), -1);
        Due.due("a bad byte", x.type(127, 1), -1);
        Due.due("a bad byte of two", x.type(0x1f20, 2), -1);
        Due.due("none of these", x.type(' ', 1), -3);
    }
}
