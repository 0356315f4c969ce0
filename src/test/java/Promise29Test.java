/** Promise 29: sheet. */
final class Promise29Test {
    public static void main(String[] args) throws ReflectiveOperationException {
        Due.run(Promise29Test.class);
    }

    private static void sheet(CoatPockets x, int sheet, int lane, int n, int want) {
        Due.due("sheet(" + sheet + ", " + lane + ", " + n + ")", x.sheet(sheet, lane, n), want);
    }

    @Says({"A SHEET holds a new row of a LANE: n.", "of 0 to 24 items."})
    static void promise29NoItemsAndMost() {
        CoatPockets x = new CoatPockets();
        for (int s = 0; s < 4; s++) {
            for (int lane = 0; lane < 3; lane++) {
                sheet(x, s, lane, 0, 0);
                Due.due("item 0 of none", x.item(s, lane, 0, 1), -13);
                sheet(x, s, lane, 24, 24);
                Due.due("the last item", x.item(s, lane, 23, 1), 1);
                Due.due("one behind it", x.item(s, lane, 24, 1), -13);
            }
            Due.due("drop(" + s + ")", x.drop(s), 24);
        }
    }

    @Says({"BAD: also n above 24;", "of 0 to 24 items."})
    static void promise29BadTooMany() {
        CoatPockets x = new CoatPockets();
        Rows.lay(x, 0, 1, 7, 8);
        int[] none = {25, 26, 32, Integer.MAX_VALUE};
        for (int n : none) {
            sheet(x, 0, 1, n, -1);
            sheet(x, 1, 0, n, -1);
        }
        Rows.holds("behind bad ones", x, 0, 1, 0, 7, 8);
        Due.due("drop(1)", x.drop(1), -11);
    }

    @Says({"SIZE: n below 0.", "SIZE -14"})
    static void promise29SizeBelowZero() {
        CoatPockets x = new CoatPockets();
        Rows.lay(x, 0, 1, 7, 8);
        int[] none = {-1, -2, -24, Integer.MIN_VALUE};
        for (int n : none) {
            sheet(x, 0, 0, n, -14);
            sheet(x, 1, 0, n, -14);
        }
        Rows.holds("behind refused ones", x, 0, 1, 0, 7, 8);
        Due.due("drop(0): it stayed", x.drop(0), 2);
        Due.due("drop(1): nothing came", x.drop(1), -11);
    }

    @Says("A SHEET holds a new row of a LANE: n. BAD:")
    static void promise29BadSheetOrLane() {
        CoatPockets x = new CoatPockets();
        int[] sheets = {-1, 4, 5, Integer.MIN_VALUE, Integer.MAX_VALUE};
        int[] lanes = {-1, 3, 4, Integer.MIN_VALUE, Integer.MAX_VALUE};
        for (int s : sheets) {
            sheet(x, s, 0, 1, -1);
        }
        for (int lane : lanes) {
            sheet(x, 0, lane, 1, -1);
        }
        for (int s = 0; s < 4; s++) {
            Due.due("drop(" + s + ")", x.drop(s), -11);
        }
    }

    @Says("BAD: also n above 24; SIZE: n below 0.")
    static void promise29BadAheadOfSize() {
        CoatPockets x = new CoatPockets();
        sheet(x, 4, 0, -1, -1);
        sheet(x, -1, 0, -1, -1);
        sheet(x, 0, 3, -1, -1);
        sheet(x, 0, -1, -1, -1);
        sheet(x, 3, 2, -1, -14);
    }

    @Says("A SHEET holds a new row of a LANE: n.")
    static void promise29NewRowIsOfNoughts() {
        for (int s = 0; s < 3; s++) {
            CoatPockets x = new CoatPockets();
            sheet(x, s, 2, 24, 24);
            Rows.holds("of a first row", x, s, 2, 0, new int[24]);
            for (int i = 0; i < 24; i++) {
                x.item(s, 2, i, 9);
            }
            sheet(x, s, 2, 24, 24);
            Rows.holds("of a second row", x, s, 2, 0, new int[24]);
            Rows.fill(x, s, 2, 0, 5, 6, 7);
            Due.due("drop(" + s + ")", x.drop(s), 24);
            sheet(x, s, 1, 3, 3);
            Rows.holds("of a row behind a drop", x, s, 1, 0, 0, 0, 0);
        }
    }

    @Says("A SHEET holds a new row of a LANE: n.")
    static void promise29OtherSheetsStay() {
        CoatPockets x = new CoatPockets();
        Rows.lay(x, 0, 0, 1, 2);
        Rows.lay(x, 1, 0, 3, 4);
        Rows.lay(x, 2, 0, 5, 6);
        sheet(x, 1, 0, 24, 24);
        Rows.holds("of the first", x, 0, 0, 0, 1, 2);
        Rows.holds("of the second", x, 1, 0, 0, new int[24]);
        Rows.holds("of the third", x, 2, 0, 0, 5, 6);
    }

    @Says("A SHEET holds a new row of a LANE: n.")
    static void promise29NewLaneAndSize() {
        CoatPockets x = new CoatPockets();
        sheet(x, 0, 0, 24, 24);
        sheet(x, 0, 1, 2, 2);
        Due.due("item of the old lane", x.item(0, 0, 0, 5), -12);
        Due.due("item of the old size", x.item(0, 1, 2, 5), -13);
        Due.due("item of the new one", x.item(0, 1, 1, 5), 1);
        Due.due("drop(0)", x.drop(0), 2);
    }
}
