/** Promise 31: item. */
final class Promise31Test {
    public static void main(String[] args) throws ReflectiveOperationException {
        Due.run(Promise31Test.class);
    }

    private static void item(CoatPockets x, int sheet, int lane, int i, int want) {
        Due.due("item(" + sheet + ", " + lane + ", " + i + ", 5)", x.item(sheet, lane, i, 5), want);
    }

    /** A value, and what it is as a debt, taken as a byte, a short, an int. */
    private static void becomes(int v, int... want) {
        CoatPockets x = new CoatPockets();
        for (int lane = 0; lane < 3; lane++) {
            Rows.lay(x, 0, lane, v);
            Rows.holds("as " + v + " in lane " + lane, x, 0, lane, 0, want[lane]);
        }
    }

    @Says({"becomes v, its lowest bits (with its sign): 1.", "0 bytes, 1 shorts, 2 ints"})
    static void promise31LowestBitsOfAByte() {
        becomes(0, 0, 0, 0);
        becomes(127, 127, 127, 127);
        becomes(255, -2, 255, 255);
        becomes(256, 0, 256, 256);
        becomes(300, 44, 300, 300);
        becomes(383, 127, 383, 383);
        becomes(511, -2, 511, 511);
        becomes(999, -2, 999, 999);
    }

    @Says("becomes v, its lowest bits (with its sign): 1.")
    static void promise31SignOfAByte() {
        becomes(128, -2, 128, 128);
        becomes(384, -2, 384, 384);
        becomes(-1, -2, -2, -2);
        becomes(-128, -2, -2, -2);
        becomes(-129, 127, -2, -2);
        becomes(-256, 0, -2, -2);
    }

    @Says("becomes v, its lowest bits (with its sign): 1.")
    static void promise31LowestBitsOfAShort() {
        becomes(65536, 0, 0, -2);
        becomes(65536 + 5, 5, 5, -2);
        becomes(65536 + 999, -2, 999, -2);
        becomes(65536 + 1000, -2, -2, -2);
        becomes(-65536 + 5, 5, 5, -2);
        becomes(-65536 + 600, 88, 600, -2);
        becomes(Integer.MIN_VALUE, 0, 0, -2);
        becomes(Integer.MIN_VALUE + 77, 77, 77, -2);
    }

    @Says("becomes v, its lowest bits (with its sign): 1.")
    static void promise31SignOfAShort() {
        becomes(32768, 0, -2, -2);
        becomes(32767, -2, -2, -2);
        becomes(-32768, 0, -2, -2);
        becomes(65535, -2, -2, -2);
        becomes(32768 + 5, 5, -2, -2);
        becomes(Integer.MAX_VALUE, -2, -2, -2);
    }

    @Says("Item i of a SHEET, taken as a row of a LANE")
    static void promise31FirstAndLastItem() {
        CoatPockets x = new CoatPockets();
        Rows.lay(x, 0, 1, 9, 9, 9);
        item(x, 0, 1, 0, 1);
        Rows.holds("then", x, 0, 1, 0, 5, 9, 9);
        item(x, 0, 1, 2, 1);
        Rows.holds("then", x, 0, 1, 0, 5, 9, 5);
        x.sheet(1, 2, 24);
        item(x, 1, 2, 0, 1);
        item(x, 1, 2, 23, 1);
        item(x, 1, 2, 24, -13);
    }

    @Says({"BAD; NULL; CAST; INDEX.", "INDEX -13"})
    static void promise31Index() {
        CoatPockets x = new CoatPockets();
        Rows.lay(x, 0, 0, 1, 2, 3);
        Rows.lay(x, 1, 0, 4, 6, 7);
        int[] out = {-1, 3, 4, 24, 27, 256, Integer.MIN_VALUE, Integer.MAX_VALUE};
        for (int i : out) {
            item(x, 0, 0, i, -13);
            item(x, 1, 0, i, -13);
        }
        Rows.holds("behind refused ones", x, 0, 0, 0, 1, 2, 3);
        Rows.holds("behind refused ones", x, 1, 0, 0, 4, 6, 7);
        x.sheet(2, 1, 0);
        item(x, 2, 1, 0, -13);
        item(x, 2, 1, -1, -13);
    }

    @Says("(with its sign): 1. BAD;")
    static void promise31Bad() {
        CoatPockets x = new CoatPockets();
        x.sheet(0, 0, 3);
        int[] sheets = {-1, 4, 5, Integer.MIN_VALUE, Integer.MAX_VALUE};
        int[] lanes = {-1, 3, 4, Integer.MIN_VALUE, Integer.MAX_VALUE};
        for (int s : sheets) {
            item(x, s, 0, 0, -1);
            item(x, s, 0, -1, -1);
        }
        for (int lane : lanes) {
            item(x, 0, lane, 0, -1);
            item(x, 0, lane, 3, -1);
            item(x, 1, lane, 0, -1);
        }
    }

    @Says("BAD; NULL; CAST; INDEX.")
    static void promise31Null() {
        CoatPockets x = new CoatPockets();
        for (int s = 0; s < 4; s++) {
            item(x, s, s % 3, 0, -11);
            item(x, s, s % 3, -1, -11);
            item(x, s, s % 3, Integer.MAX_VALUE, -11);
        }
    }

    @Says("BAD; NULL; CAST; INDEX.")
    static void promise31Cast() {
        CoatPockets x = new CoatPockets();
        for (int s = 0; s < 3; s++) {
            x.sheet(s, s, 3);
            for (int lane = 0; lane < 3; lane++) {
                item(x, s, lane, 0, s == lane ? 1 : -12);
                item(x, s, lane, 3, s == lane ? -13 : -12);
                item(x, s, lane, -1, s == lane ? -13 : -12);
            }
        }
        Rows.lay(x, 0, 1, 9);
        item(x, 0, 2, 0, -12);
        item(x, 0, 0, 0, -12);
        Rows.holds("behind refused ones", x, 0, 1, 0, 9);
    }
}
