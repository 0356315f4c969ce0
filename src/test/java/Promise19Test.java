/** Promise 19: dealt. */
final class Promise19Test {
    public static void main(String[] args) throws ReflectiveOperationException {
        Due.run(Promise19Test.class);
    }

    /** The bells, then the four of the order. */
    private static void dealt(CoatPockets x, int coat, int from, int to, int... want) {
        for (int i = -1; i < 4; i++) {
            Due.due("dealt(" + coat + ", " + from + ", " + to + ", " + i + ")", x.dealt(coat, from, to, i), want[i + 1]);
        }
    }

    @Says({"DEALT: if a COAT's TURN had another order (or the same), any, and the first of that order WORE it now:",
        "DEALT: the BELLS (-1), the i-th BOY of the order (0 .. 3)."})
    static void promise19AnotherOrderOrTheSame() {
        CoatPockets x = Due.of("0123");
        dealt(x, 0, 0, 1, 1, 0, 1, 2, 3);
        dealt(x, 0, 0, 3, 1, 0, 3, 1, 2);
        dealt(x, 0, 3, 0, 1, 3, 0, 1, 2);
        dealt(x, 0, 2, 1, 1, 2, 1, 0, 3);
    }

    @Says("and the first of that order WORE it now:")
    static void promise19FirstWearsItNow() {
        CoatPockets x = Due.of("0123");
        for (int k = 0; k < 3; k++) {
            x.bell();
            dealt(x, 0, 0, 3, 1, 0, 3, 1, 2);
            dealt(x, 0, 2, 2, 0, 0, 1, 2, 3);
        }
    }

    @Says("that by which SOONEST (without THIEVES) from a BOY to a BOY is least")
    static void promise19OtherCoatsAsTheyAreWorn() {
        // Boy 1 wears the second coat at odd bells, and must have it by then.
        CoatPockets x = Due.of("012,31");
        dealt(x, 0, 0, 3, 2, 0, 1, 2, -4);
        dealt(x, 1, 0, 3, 2, 3, 1, -4, -4);
        dealt(x, 0, 1, 3, 2, 0, 1, 2, -4);
        dealt(x, 0, 2, 3, 2, 2, 1, 0, -4);
        dealt(x, 1, 2, 1, 4, 1, 3, -4, -4);
        dealt(x, 1, 2, 3, 5, 1, 3, -4, -4);
        x.bell();
        dealt(x, 0, 0, 3, 3, 0, 1, 2, -4);
        dealt(Due.of("01,120"), 0, 0, 2, 4, 0, 1, -4, -4);
    }

    @Says("of like ones the first as a row of BOYS;")
    static void promise19FirstOfLikeOnes() {
        CoatPockets x = Due.of("3210,7654,54,1");
        dealt(x, 0, 6, 6, 0, 0, 1, 2, 3);
        dealt(x, 1, 0, 0, 0, 4, 5, 6, 7);
        dealt(x, 2, 7, 7, 0, 4, 5, -4, -4);
        dealt(x, 3, 1, 1, 0, 1, -4, -4, -4);
        dealt(x, 0, 3, 2, 1, 3, 2, 0, 1);
        dealt(x, 1, 5, 6, 1, 5, 6, 4, 7);
        dealt(Due.of("210"), 0, 2, 0, 1, 2, 0, 1, -4);
    }

    @Says("none, if by none it is in 24 BELLS.")
    static void promise19NoneByAnyOrder() {
        CoatPockets x = Due.of("01h1,0,23,4");
        dealt(x, 0, 0, 1, -4, -4, -4, -4, -4);
        dealt(x, 1, 0, 1, -4, -4, -4, -4, -4);
        dealt(x, 2, 0, 3, -4, -4, -4, -4, -4);
        dealt(x, 3, 7, 6, -4, -4, -4, -4, -4);
        x.hole(0, 0);
        dealt(x, 0, 0, 1, 1, 0, 1, -4, -4);
        dealt(x, 2, 0, 1, 1, 2, 3, -4, -4);
    }

    @Says("NONE: there is none, no i-th.")
    static void promise19NoneNoSuchOfTheOrder() {
        CoatPockets x = Due.of("7,76,765,7654");
        dealt(x, 0, 7, 7, 0, 7, -4, -4, -4);
        dealt(x, 1, 7, 6, 1, 6, 7, -4, -4);
        dealt(x, 2, 7, 5, 1, 7, 5, 6, -4);
        dealt(x, 3, 7, 4, 1, 7, 4, 5, 6);
    }

    @Says("(0 .. 3). BAD;")
    static void promise19BadI() {
        CoatPockets x = Due.of("01,2");
        int[] none = {-2, 4, 5, Integer.MIN_VALUE, Integer.MAX_VALUE};
        for (int i : none) {
            Due.due("dealt(0, 0, 1, " + i + ")", x.dealt(0, 0, 1, i), -1);
            Due.due("bad ahead of none, " + i, x.dealt(0, 0, 7, i), -1);
            Due.due("bad ahead of no i-th, " + i, x.dealt(1, 2, 2, i), -1);
        }
    }

    @Says("(0 .. 3). BAD;")
    static void promise19BadNoSuchCoat() {
        CoatPockets x = Due.of("01,2");
        int[] none = {-1, 2, 3, 4, Integer.MIN_VALUE, Integer.MAX_VALUE};
        for (int c : none) {
            dealt(x, c, 0, 1, -1, -1, -1, -1, -1);
        }
        dealt(new CoatPockets(), 0, 0, 0, -1, -1, -1, -1, -1);
    }

    @Says("(0 .. 3). BAD;")
    static void promise19BadBoys() {
        CoatPockets x = Due.of("01,2");
        int[] none = {-1, 8, 9, Integer.MIN_VALUE, Integer.MAX_VALUE};
        for (int boy : none) {
            dealt(x, 0, boy, 1, -1, -1, -1, -1, -1);
            dealt(x, 0, 0, boy, -1, -1, -1, -1, -1);
            dealt(x, 0, boy, boy, -1, -1, -1, -1, -1);
        }
        dealt(x, 0, 7, 7, 0, 0, 1, -4, -4);
    }

    @Says("What is refused changes nothing, but as told.")
    static void promise19TurnsStayAsTheyAre() {
        CoatPockets x = Due.of("3201,310");
        x.bell();
        String was = Due.seen(x);
        x.dealt(0, 0, 2, -1);
        x.dealt(0, 0, 2, 3);
        x.dealt(0, 0, 7, 1);
        x.dealt(0, 0, 2, 4);
        x.dealt(1, 1, 3, 2);
        Due.unchanged("dealt", x, was);
    }
}
