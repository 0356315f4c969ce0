/** Promise 2: coat. */
final class Promise02Test {
    private static final int[] UNLIKE = {0, 01, 012, 0123, 01234};

    public static void main(String[] args) throws ReflectiveOperationException {
        Due.run(Promise02Test.class);
    }

    private static void bad(int turn, int n, int hole) {
        CoatPockets x = new CoatPockets();
        Due.due("coat(0" + Integer.toOctalString(turn) + ", " + n + ", " + hole + ")", x.coat(turn, n, hole), -1);
        Due.due("count(0) behind it", x.count(0), 0);
    }

    private static CoatPockets four() {
        CoatPockets x = new CoatPockets();
        for (int c = 0; c < 4; c++) {
            Due.due("coat(" + c + ", 1, 0)", x.coat(c, 1, 0), c);
        }
        return x;
    }

    @Says({"A COAT: its number.", "COATS 0 .. 3, as they come, have a TURN"})
    static void promise2NumbersAsTheyCome() {
        CoatPockets x = four();
        Due.due("count(0)", x.count(0), 4);
        for (int c = 0; c < 4; c++) {
            Due.due("of(" + c + ", 0)", x.of(c, 0), c);
        }
    }

    @Says({"The TURN has n BOYS (1 .. 4)", "a row of 1 to 4 unlike BOYS"})
    static void promise2TurnOfOneAndOfFour() {
        CoatPockets x = new CoatPockets();
        Due.due("coat(6, 1, 1)", x.coat(6, 1, 1), 0);
        Due.coat("of one", x, 0, 6, 1, 1, 0, 0, 6, -4, -4, -4);
        Due.due("coat(03210, 4, 2)", x.coat(03210, 4, 2), 1);
        Due.coat("of four", x, 1, 0, 4, 2, 0, 0, 0, 1, 2, 3);
    }

    @Says({"The TURN has n BOYS (1 .. 4)", "a row of 1 to 4 unlike BOYS"})
    static void promise2BadTurnOfNone() {
        int[] none = {0, -1, -4, Integer.MIN_VALUE, Integer.MIN_VALUE + 1};
        for (int n : none) {
            bad(0, n, 0);
            bad(1, n, 0);
        }
    }

    @Says({"The TURN has n BOYS (1 .. 4)", "a row of 1 to 4 unlike BOYS"})
    static void promise2BadTurnOfFive() {
        int[] many = {5, 6, 8, 32, 33, Integer.MAX_VALUE};
        for (int n : many) {
            bad(043210, n, 0);
            bad(1, n, 0);
        }
    }

    @Says("digits of 8 of a number, the first one lowest.")
    static void promise2FirstIsLowest() {
        CoatPockets x = new CoatPockets();
        Due.due("coat(07245, 4, 0)", x.coat(07245, 4, 0), 0);
        Due.coat("of 5, 4, 2, 7", x, 0, 5, 4, 0, 0, 0, 5, 4, 2, 7);
        Due.due("coat(0613, 3, 0)", x.coat(0613, 3, 0), 1);
        Due.coat("of 3, 1, 6", x, 1, 3, 3, 0, 0, 0, 3, 1, 6, -4);
    }

    @Says({"digits of 8 of a number, the first one lowest.", "BOYS are 0 .. 7."})
    static void promise2HighestDigitsAreZero() {
        CoatPockets x = new CoatPockets();
        Due.due("coat(0123, 4, 0)", x.coat(0123, 4, 0), 0);
        Due.coat("of 3, 2, 1, 0", x, 0, 3, 4, 0, 0, 0, 3, 2, 1, 0);
        Due.due("coat(7, 2, 0)", x.coat(7, 2, 0), 1);
        Due.coat("of 7, 0", x, 1, 7, 2, 0, 0, 0, 7, 0, -4, -4);
        Due.due("coat(0, 1, 0)", x.coat(0, 1, 0), 2);
        Due.coat("of 0", x, 2, 0, 1, 0, 0, 0, 0, -4, -4, -4);
    }

    @Says("BAD: also one twice")
    static void promise2BadBoyTwice() {
        for (int n = 2; n <= 4; n++) {
            for (int i = 0; i < n; i++) {
                for (int j = i + 1; j < n; j++) {
                    int boy = UNLIKE[n] >> 3 * i & 7;
                    bad(UNLIKE[n] & ~(7 << 3 * j) | boy << 3 * j, n, 0);
                }
            }
            Due.due("unlike ones, " + n, new CoatPockets().coat(UNLIKE[n], n, 0), 0);
        }
    }

    @Says("BAD: also one twice")
    static void promise2BadZeroTwice() {
        bad(0, 2, 0);
        bad(1, 3, 0);
        bad(012, 4, 0);
        bad(0100, 3, 0);
        Due.due("coat(0777, 1, 0) has more digits", new CoatPockets().coat(0777, 1, 0), -1);
    }

    @Says("a number with more digits")
    static void promise2BadMoreDigits() {
        bad(010, 1, 0);
        bad(0210, 2, 0);
        bad(0110, 2, 0);
        bad(03210, 3, 0);
        bad(043210, 4, 0);
        bad(013210, 4, 0);
        bad(0100003210, 4, 0);
        bad(010000000001, 1, 0);
        bad(Integer.MAX_VALUE, 4, 0);
        Due.due("coat(07, 1, 0)", new CoatPockets().coat(07, 1, 0), 0);
        Due.due("coat(076, 2, 0)", new CoatPockets().coat(076, 2, 0), 0);
        Due.due("coat(0765, 3, 0)", new CoatPockets().coat(0765, 3, 0), 0);
        Due.due("coat(07654, 4, 0)", new CoatPockets().coat(07654, 4, 0), 0);
    }

    @Says("BAD -1 (a number is not as told, or names nothing)")
    static void promise2BadNumberBelowZero() {
        int[] below = {-1, -8, Integer.MIN_VALUE, Integer.MIN_VALUE + 03210, Integer.MIN_VALUE + 1};
        for (int turn : below) {
            for (int n = 1; n <= 4; n++) {
                bad(turn, n, 0);
            }
        }
    }

    @Says("a HOLE (0 .. 3).")
    static void promise2BadHole() {
        int[] none = {-1, 4, Integer.MIN_VALUE, Integer.MAX_VALUE};
        for (int hole : none) {
            bad(1, 1, hole);
        }
    }

    @Says("a HOLE (0 .. 3).")
    static void promise2LeastAndMostHole() {
        CoatPockets x = new CoatPockets();
        for (int hole = 0; hole < 4; hole++) {
            Due.due("coat(1, 1, " + hole + ")", x.coat(1, 1, hole), hole);
            Due.due("of(" + hole + ", 2)", x.of(hole, 2), hole);
        }
    }

    @Says({"FULL: 4.", "What is refused changes nothing, but as told."})
    static void promise2FullAtFour() {
        CoatPockets x = four();
        String was = Due.seen(x);
        Due.due("a fifth coat", x.coat(7, 1, 0), -3);
        Due.due("another one", x.coat(07654, 4, 3), -3);
        Due.unchanged("a fifth coat", x, was);
    }

    @Says({"Refusals are answers, of several the first that a call names:", "BAD: also one twice, a number with more digits; FULL: 4."})
    static void promise2BadAheadOfFull() {
        CoatPockets x = four();
        Due.due("a bad hole", x.coat(1, 1, 4), -1);
        Due.due("one twice", x.coat(011, 2, 0), -1);
        Due.due("more digits", x.coat(010, 1, 0), -1);
        Due.due("no boys", x.coat(0, 0, 0), -1);
        Due.due("five boys", x.coat(043210, 5, 0), -1);
        Due.due("none of these", x.coat(1, 1, 3), -3);
    }

    @Says("What is refused changes nothing, but as told.")
    static void promise2BadChangesNothing() {
        CoatPockets x = Due.of("01h1", 0, 0);
        String was = Due.seen(x);
        x.coat(011, 2, 0);
        x.coat(012, 1, 0);
        x.coat(012, 2, 4);
        x.coat(012, 5, 0);
        Due.unchanged("bad ones", x, was);
        Due.due("the next one", x.coat(012, 2, 0), 1);
    }

    @Says("the first of it WEARS the COAT at first")
    static void promise2FirstWearsAtFirst() {
        CoatPockets x = Due.of("01");
        x.bell();
        Due.due("coat(065, 2, 0) behind a bell", x.coat(065, 2, 0), 1);
        Due.due("of(1, 0)", x.of(1, 0), 5);
        Due.due("of(0, 0)", x.of(0, 0), 1);
        x.bell();
        Due.due("of(1, 0) a bell later", x.of(1, 0), 6);
        Due.due("of(0, 0) a bell later", x.of(0, 0), 0);
    }

    @Says("A BOY can WEAR more than one.")
    static void promise2OneBoyWearsAll() {
        CoatPockets x = new CoatPockets();
        for (int c = 0; c < 4; c++) {
            Due.due("coat(012, 2, 0)", x.coat(012, 2, 0), c);
        }
        for (int c = 0; c < 4; c++) {
            Due.due("of(" + c + ", 0)", x.of(c, 0), 2);
        }
    }

    @Says("FULL: 4.")
    static void promise2BehindASchool() {
        CoatPockets x = Due.of("0,1,2");
        Due.due("behind three", x.coat(05, 1, 0), 3);
        Due.due("behind four", x.coat(05, 1, 0), -3);
        Due.school(x, "7");
        Due.due("behind one", x.coat(05, 1, 0), 1);
        Due.coat("of it", x, 1, 5, 1, 0, 0, 0, 5, -4, -4, -4);
    }
}
