/** Promise 11: count. */
final class Promise11Test {
    public static void main(String[] args) throws ReflectiveOperationException {
        Due.run(Promise11Test.class);
    }

    private static CoatPockets eightIn(int kind, String school) {
        CoatPockets x = Due.of(school, 0, kind, kind, kind, kind, kind, kind, kind, kind);
        for (int t = 0; t < 8; t++) {
            Due.due("put(" + t + ", " + t / 2 + ")", x.put(t, t / 2), 0);
        }
        return x;
    }

    private static void counts(CoatPockets x, int... want) {
        for (int what = 0; what < 6; what++) {
            Due.due("count(" + what + ")", x.count(what), want[what]);
        }
    }

    @Says({"How many: 0 COATS", "1 THINGS", "2 BELLS", "5 EATEN."})
    static void promise11NoneOfEach() {
        counts(new CoatPockets(), 0, 0, 0, 0, 0, 0);
    }

    @Says("3 THINGS in POCKETS")
    static void promise11AllInPockets() {
        counts(eightIn(0, "0,0,0,0"), 4, 8, 0, 8, 0, 0);
    }

    @Says("4 in LININGS")
    static void promise11AllInLinings() {
        CoatPockets x = eightIn(0, "0h3,0h3,0h3,0h3");
        for (int k = 0; k < 8; k++) {
            x.seed(0);
            x.bell();
        }
        counts(x, 4, 8, 8, 0, 8, 0);
    }

    @Says("5 EATEN.")
    static void promise11AllEaten() {
        CoatPockets x = eightIn(1, "0,0,0,0");
        x.bell();
        counts(x, 4, 8, 1, 0, 0, 8);
    }

    @Says({"3 THINGS in POCKETS", "4 in LININGS", "5 EATEN."})
    static void promise11SomeOfEach() {
        CoatPockets x = Due.of("0h3,1", 0, 0, 1, 3, 2, 0);
        Due.due("a day", Due.day(x, "p0>0;p1>0;p2>0;g4>1;p4>1"), 5);
        x.seed(0);
        Due.due("bell()", x.bell(), 1);
        counts(x, 2, 5, 1, 2, 1, 1);
    }

    @Says("5 EATEN. BAD.")
    static void promise11BadWhat() {
        CoatPockets x = Due.of("0", 0, 0);
        int[] none = {-1, 6, 7, Integer.MIN_VALUE, Integer.MAX_VALUE};
        for (int what : none) {
            Due.due("count(" + what + ")", x.count(what), -1);
        }
    }
}
