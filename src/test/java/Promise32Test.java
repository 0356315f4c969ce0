/** Promise 32: copy. */
final class Promise32Test {
    public static void main(String[] args) throws ReflectiveOperationException {
        Due.run(Promise32Test.class);
    }

    private static void copy(CoatPockets x, int from, int i, int to, int j, int n, int want) {
        Due.due("copy(" + from + ", " + i + ", " + to + ", " + j + ", " + n + ")", x.copy(from, i, to, j, n), want);
    }

    private static CoatPockets two() {
        CoatPockets x = new CoatPockets();
        Rows.lay(x, 0, 2, 1, 2, 3, 4, 5);
        Rows.lay(x, 1, 2, 6, 7, 8);
        return x;
    }

    private static void stay(CoatPockets x) {
        Rows.holds("behind refused ones", x, 0, 2, 0, 1, 2, 3, 4, 5);
        Rows.holds("behind refused ones", x, 1, 2, 0, 6, 7, 8);
    }

    @Says("n items of a SHEET from i on come to another one (or the same) from j on")
    static void promise32ToAnother() {
        CoatPockets x = two();
        copy(x, 0, 3, 1, 1, 2, 2);
        Rows.holds("then", x, 1, 2, 0, 6, 4, 5);
        Rows.holds("as it was", x, 0, 2, 0, 1, 2, 3, 4, 5);
        copy(x, 1, 0, 0, 0, 3, 3);
        Rows.holds("then", x, 0, 2, 0, 6, 4, 5, 4, 5);
        x.item(1, 2, 0, 9);
        Rows.holds("each is its own", x, 0, 2, 0, 6);
    }

    @Says("from j on, as if all were taken ahead: n.")
    static void promise32InTheSameRow() {
        CoatPockets x = two();
        copy(x, 0, 0, 0, 1, 4, 4);
        Rows.holds("one on", x, 0, 2, 0, 1, 1, 2, 3, 4);
        copy(x, 0, 2, 0, 0, 3, 3);
        Rows.holds("two back", x, 0, 2, 0, 2, 3, 4, 3, 4);
        copy(x, 0, 0, 0, 0, 5, 5);
        Rows.holds("onto itself", x, 0, 2, 0, 2, 3, 4, 3, 4);
    }

    @Says("n items of a SHEET from i on")
    static void promise32NoneAndAll() {
        CoatPockets x = new CoatPockets();
        x.sheet(0, 1, 24);
        x.sheet(1, 1, 24);
        for (int i = 0; i < 24; i++) {
            x.item(0, 1, i, 100 + i);
        }
        copy(x, 0, 0, 1, 0, 0, 0);
        Rows.holds("of none", x, 1, 1, 0, 0);
        copy(x, 0, 0, 1, 0, 24, 24);
        Rows.holds("of all", x, 1, 1, 0, 100);
        Rows.holds("of all", x, 1, 1, 23, 123);
        copy(x, 0, 0, 1, 0, 25, -13);
        copy(x, 0, 1, 0, 0, 23, 23);
        Rows.holds("of all but one", x, 0, 1, 22, 123, 123);
    }

    @Says("INDEX (n below 0, too;")
    static void promise32IndexOfLessThanNone() {
        CoatPockets x = two();
        int[] none = {-1, -2, -5, Integer.MIN_VALUE, Integer.MIN_VALUE + 1};
        for (int n : none) {
            copy(x, 0, 0, 1, 0, n, -13);
            copy(x, 0, 3, 1, 3, n, -13);
            copy(x, 0, 2, 0, 1, n, -13);
        }
        stay(x);
    }

    @Says("with n 0, too, if i or j is below 0 or above how many there are).")
    static void promise32IndexOfNone() {
        CoatPockets x = two();
        copy(x, 0, 5, 1, 3, 0, 0);
        copy(x, 0, 6, 1, 0, 0, -13);
        copy(x, 0, 0, 1, 4, 0, -13);
        copy(x, 0, -1, 1, 0, 0, -13);
        copy(x, 0, 0, 1, -1, 0, -13);
        copy(x, 1, 4, 0, 0, 0, -13);
        copy(x, 0, Integer.MAX_VALUE, 1, 0, 0, -13);
        copy(x, 0, 0, 1, Integer.MIN_VALUE, 0, -13);
        x.sheet(2, 2, 0);
        copy(x, 2, 0, 2, 0, 0, 0);
        copy(x, 2, 1, 2, 0, 0, -13);
        copy(x, 2, 0, 2, 1, 0, -13);
        copy(x, 2, 0, 0, 5, 0, 0);
    }

    @Says({"INDEX (n below 0, too;", "INDEX -13"})
    static void promise32IndexTooFar() {
        CoatPockets x = two();
        copy(x, 0, 3, 0, 0, 3, -13);
        copy(x, 0, 0, 0, 3, 3, -13);
        copy(x, 0, 0, 1, 1, 3, -13);
        copy(x, 1, 1, 0, 0, 3, -13);
        copy(x, 0, 0, 1, 0, 4, -13);
        copy(x, 1, 0, 0, 0, 4, -13);
        copy(x, 0, 5, 1, 0, 1, -13);
        copy(x, 0, 0, 1, 3, 1, -13);
        copy(x, 0, -1, 1, 0, 2, -13);
        copy(x, 0, 0, 1, -1, 2, -13);
        stay(x);
        copy(x, 0, 2, 1, 0, 3, 3);
        Rows.holds("up to both ends", x, 1, 2, 0, 3, 4, 5);
    }

    @Says("INDEX -13")
    static void promise32IndexThatWrapsAround() {
        CoatPockets x = two();
        int[] far = {Integer.MAX_VALUE, Integer.MAX_VALUE - 1, Integer.MAX_VALUE - 2, Integer.MIN_VALUE};
        for (int one : far) {
            copy(x, 0, one, 1, 0, 1, -13);
            copy(x, 0, 0, 1, one, 1, -13);
            copy(x, 0, one, 1, one, 3, -13);
            copy(x, 0, 0, 1, 0, one, -13);
            copy(x, 0, 1, 1, 1, one, -13);
            copy(x, 0, one, 1, one, one, -13);
        }
        stay(x);
    }

    @Says("from j on, as if all were taken ahead: n. BAD;")
    static void promise32Bad() {
        CoatPockets x = two();
        int[] none = {-1, 4, 5, Integer.MIN_VALUE, Integer.MAX_VALUE};
        for (int s : none) {
            copy(x, s, 0, 1, 0, 1, -1);
            copy(x, 0, 0, s, 0, 1, -1);
            copy(x, s, -1, 3, -1, -1, -1);
            copy(x, 3, -1, s, -1, -1, -1);
            copy(x, s, 0, s, 0, 0, -1);
        }
        stay(x);
    }

    @Says("NULL (either);")
    static void promise32NullOfEither() {
        CoatPockets x = two();
        x.sheet(2, 1, 3);
        copy(x, 3, 0, 0, 0, 1, -11);
        copy(x, 0, 0, 3, 0, 1, -11);
        copy(x, 3, 0, 3, 0, 0, -11);
        copy(x, 3, -1, 2, 0, -1, -11);
        copy(x, 2, 0, 3, -1, -1, -11);
        x.drop(1);
        copy(x, 0, 0, 1, 0, 1, -11);
        copy(x, 1, 0, 0, 0, 0, -11);
    }

    @Says("CAST: of unlike LANES;")
    static void promise32CastOfUnlikeLanes() {
        CoatPockets x = new CoatPockets();
        for (int s = 0; s < 3; s++) {
            Rows.lay(x, s, s, 1, 2);
        }
        for (int from = 0; from < 3; from++) {
            for (int to = 0; to < 3; to++) {
                boolean like = from == to;
                copy(x, from, 0, to, 0, 2, like ? 2 : -12);
                copy(x, from, 0, to, 0, 0, like ? 0 : -12);
                copy(x, from, 0, to, 0, -1, like ? -13 : -12);
                copy(x, from, 3, to, 0, 1, like ? -13 : -12);
                copy(x, from, 0, to, -1, 1, like ? -13 : -12);
            }
        }
    }

    @Says("or a row of a LANE: 0 bytes, 1 shorts, 2 ints")
    static void promise32OfEachLane() {
        int[][] items = {{127, 0, -1, 5}, {999, 0, -1, 300}, {999, 1000, -1, 65541}};
        int[][] told = {{127, 0, -2, 5}, {999, 0, -2, 300}, {999, -2, -2, -2}};
        for (int lane = 0; lane < 3; lane++) {
            CoatPockets x = new CoatPockets();
            Rows.lay(x, 0, lane, items[lane]);
            Rows.lay(x, 1, lane, 9, 9, 9, 9);
            copy(x, 0, 0, 1, 0, 4, 4);
            Rows.holds("in lane " + lane, x, 1, lane, 0, told[lane]);
        }
    }
}
