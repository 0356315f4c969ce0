/** Promise 28: film. */
final class Promise28Test {
    public static void main(String[] args) throws ReflectiveOperationException {
        Due.run(Promise28Test.class);
    }

    private static void film(CoatPockets x, int sheet, int lane, int from, int want) {
        Due.due("film(" + sheet + ", " + lane + ", " + from + ")", x.film(sheet, lane, from), want);
    }

    @Says({"Where all THINGS are, as where(), comes to a SHEET, taken as a row of a LANE, from one on: how many.",
        "0 bytes, 1 shorts, 2 ints"})
    static void promise28PlacesOfAllKinds() {
        for (int lane = 0; lane < 3; lane++) {
            CoatPockets x = Due.of("0h3,0,0,70h3", 0, 0, 1, 0, 0);
            x.thing(0, 7);
            x.thing(0, 7);
            Due.due("a day", Due.day(x, "p0>0;p1>1;p2>1;p4>3"), 4);
            x.seed(0);
            Due.due("bell()", x.bell(), 2);
            Rows.lay(x, 0, lane, 9, 9, 9, 9, 9, 9, 9, 9);
            film(x, 0, lane, 1, 6);
            Rows.holds("of lane " + lane, x, 0, lane, 0, 9, 20, 30, 11, 0, 23, 7, 9);
        }
    }

    @Says("from one on: how many.")
    static void promise28AllEight() {
        CoatPockets x = Due.of("0,0,0,0", 0, 0, 0, 0, 0, 0, 0, 0, 0);
        for (int t = 0; t < 8; t += 2) {
            x.put(t, t / 2);
        }
        x.sheet(0, 0, 24);
        film(x, 0, 0, 0, 8);
        Rows.holds("from the first on", x, 0, 0, 0, 10, 0, 11, 0, 12, 0, 13, 0, 0);
        film(x, 0, 0, 16, 8);
        Rows.holds("up to the last", x, 0, 0, 15, 0, 10, 0, 11, 0, 12, 0, 13, 0);
        film(x, 0, 0, 17, -13);
        x.sheet(1, 2, 8);
        film(x, 1, 2, 0, 8);
        film(x, 1, 2, 1, -13);
        x.sheet(1, 2, 7);
        film(x, 1, 2, 0, -13);
    }

    @Says("INDEX (of none, too: from below 0, or above how many there are).")
    static void promise28IndexOfNone() {
        CoatPockets x = new CoatPockets();
        x.sheet(0, 0, 6);
        x.sheet(1, 1, 0);
        x.sheet(2, 2, 24);
        film(x, 0, 0, 0, 0);
        film(x, 0, 0, 6, 0);
        film(x, 1, 1, 0, 0);
        film(x, 2, 2, 24, 0);
        film(x, 0, 0, 7, -13);
        film(x, 0, 0, -1, -13);
        film(x, 1, 1, 1, -13);
        film(x, 1, 1, -1, -13);
        film(x, 2, 2, 25, -13);
        film(x, 0, 0, Integer.MAX_VALUE, -13);
        film(x, 0, 0, Integer.MIN_VALUE, -13);
    }

    @Says({"BAD; NULL; CAST; INDEX", "INDEX -13"})
    static void promise28Index() {
        CoatPockets x = Due.of("0,0", 0, 0, 0, 0);
        x.put(1, 1);
        Rows.lay(x, 0, 1, 9, 8, 7, 6, 5);
        int[] out = {-1, -2, 3, 4, 5, 6, Integer.MAX_VALUE, Integer.MAX_VALUE - 1, Integer.MAX_VALUE - 2, Integer.MIN_VALUE};
        for (int from : out) {
            film(x, 0, 1, from, -13);
        }
        Rows.holds("behind refused ones", x, 0, 1, 0, 9, 8, 7, 6, 5);
        film(x, 0, 1, 2, 3);
        Rows.holds("up to the last", x, 0, 1, 0, 9, 8, 0, 11, 0);
    }

    @Says("from one on: how many. BAD;")
    static void promise28Bad() {
        CoatPockets x = Due.of("", 0, 0);
        x.sheet(0, 0, 6);
        int[] sheets = {-1, 4, 5, Integer.MIN_VALUE, Integer.MAX_VALUE};
        int[] lanes = {-1, 3, 4, Integer.MIN_VALUE, Integer.MAX_VALUE};
        for (int s : sheets) {
            film(x, s, 0, 0, -1);
            film(x, s, 0, -1, -1);
        }
        for (int lane : lanes) {
            film(x, 0, lane, 0, -1);
            film(x, 1, lane, 0, -1);
        }
    }

    @Says("BAD; NULL; CAST; INDEX")
    static void promise28Null() {
        CoatPockets x = Due.of("", 0, 0);
        for (int lane = 0; lane < 3; lane++) {
            film(x, 0, lane, 0, -11);
            film(x, 3, lane, -1, -11);
        }
        film(new CoatPockets(), 0, 0, 0, -11);
        x.sheet(0, 0, 6);
        x.drop(0);
        film(x, 0, 0, 0, -11);
    }

    @Says("BAD; NULL; CAST; INDEX")
    static void promise28Cast() {
        CoatPockets x = Due.of("", 0, 0);
        for (int s = 0; s < 3; s++) {
            x.sheet(s, s, 3);
            for (int lane = 0; lane < 3; lane++) {
                film(x, s, lane, 0, s == lane ? 1 : -12);
                film(x, s, lane, 3, s == lane ? -13 : -12);
                film(x, s, lane, -1, s == lane ? -13 : -12);
            }
        }
        CoatPockets y = new CoatPockets();
        y.sheet(0, 0, 3);
        film(y, 0, 1, 0, -12);
    }
}
