/** Promise 27: owes. */
final class Promise27Test {
    public static void main(String[] args) throws ReflectiveOperationException {
        Due.run(Promise27Test.class);
    }

    private static void owes(CoatPockets x, int sheet, int lane, int from, int n, int want) {
        Due.due("owes(" + sheet + ", " + lane + ", " + from + ", " + n + ")", x.owes(sheet, lane, from, n), want);
    }

    /** A sheet with one debt that is not as told, behind one that is: neither comes. */
    private static void not(int a, int b, int more) {
        CoatPockets x = new CoatPockets();
        Rows.lay(x, 0, 2, 4, 5, 6, a, b, more);
        String call = "owes of " + a + ", " + b + ", " + more;
        Due.due(call, x.owes(0, 2, 3, 1), -2);
        Due.due(call + " behind another one", x.owes(0, 2, 0, 2), -2);
        for (int boy = 0; boy < 8; boy++) {
            Due.due("balance(" + boy + ") behind " + call, x.balance(boy), 0);
        }
        Due.due("the other one", x.owes(0, 2, 0, 1), 6);
    }

    @Says({"n DEBTS (1 .. 6), three items each (who OWES, whom, MARBLES more)", "together more."})
    static void promise27OneDebtAndSix() {
        CoatPockets x = new CoatPockets();
        Rows.lay(x, 0, 2, 0, 1, 5, 1, 0, 7, 7, 6, 0, 3, 4, 1, 5, 4, 2, 0, 7, 999);
        owes(x, 0, 2, 0, 1, 5);
        owes(x, 0, 2, 15, 1, 999);
        x.owe(0, 7, 0);
        owes(x, 0, 2, 0, 6, 1014);
        int[][] debts = {{0, 1, 10}, {1, 0, 7}, {7, 6, 0}, {3, 4, 1}, {5, 4, 2}, {0, 7, 999}};
        for (int[] debt : debts) {
            Due.due("owe(" + debt[0] + ", " + debt[1] + ", 0)", x.owe(debt[0], debt[1], 0), debt[2]);
        }
    }

    @Says("n DEBTS (1 .. 6), three items each")
    static void promise27BadCount() {
        CoatPockets x = new CoatPockets();
        x.sheet(0, 0, 24);
        Rows.fill(x, 0, 0, 0, 0, 1, 5);
        int[] none = {0, -1, 7, 8, Integer.MIN_VALUE, Integer.MAX_VALUE, 0x55555556};
        for (int n : none) {
            owes(x, 0, 0, 0, n, -1);
            owes(x, 0, 1, -1, n, -1);
            owes(x, 1, 0, 0, n, -1);
        }
        Due.due("balance(1)", x.balance(1), 0);
    }

    @Says({"together more. BAD;", "---- 4 sheets 0 .. 3:", "0 bytes, 1 shorts, 2 ints"})
    static void promise27BadSheetOrLane() {
        CoatPockets x = new CoatPockets();
        for (int s = 0; s < 3; s++) {
            Rows.lay(x, s, s, 0, 1, 5);
        }
        int[] sheets = {-1, 4, 5, Integer.MIN_VALUE, Integer.MAX_VALUE};
        int[] lanes = {-1, 3, 4, Integer.MIN_VALUE, Integer.MAX_VALUE};
        for (int s : sheets) {
            owes(x, s, 0, 0, 1, -1);
            owes(x, s, 0, -1, 1, -1);
        }
        for (int lane : lanes) {
            owes(x, 0, lane, 0, 1, -1);
            owes(x, 3, lane, 0, 1, -1);
        }
    }

    @Says({"BAD; NULL; CAST; INDEX; NOT:", "(NULL, CAST, INDEX, SIZE in this order, behind BAD)"})
    static void promise27Null() {
        CoatPockets x = new CoatPockets();
        for (int lane = 0; lane < 3; lane++) {
            owes(x, 0, lane, 0, 1, -11);
            owes(x, 3, lane, -1, 1, -11);
            owes(x, 3, lane, Integer.MAX_VALUE, 6, -11);
        }
        x.sheet(0, 0, 24);
        x.drop(0);
        owes(x, 0, 0, 0, 1, -11);
    }

    @Says({"BAD; NULL; CAST; INDEX; NOT:", "CAST -12 (of SHEETS another LANE);"})
    static void promise27Cast() {
        CoatPockets x = new CoatPockets();
        for (int s = 0; s < 3; s++) {
            Rows.lay(x, s, s, 0, 1, 5);
            for (int lane = 0; lane < 3; lane++) {
                owes(x, s, lane, 0, 1, s == lane ? 5 : -12);
                owes(x, s, lane, -1, 1, s == lane ? -13 : -12);
                owes(x, s, lane, 1, 1, s == lane ? -13 : -12);
            }
        }
    }

    @Says("INDEX -13")
    static void promise27Index() {
        CoatPockets x = new CoatPockets();
        Rows.lay(x, 0, 1, 0, 1, 5, 1, 2, 6, 7);
        int[] out = {-1, -3, 5, 6, 7, 8, Integer.MIN_VALUE, Integer.MAX_VALUE, Integer.MAX_VALUE - 1, Integer.MAX_VALUE - 2};
        for (int from : out) {
            owes(x, 0, 1, from, 1, -13);
        }
        owes(x, 0, 1, 0, 3, -13);
        owes(x, 0, 1, 0, 6, -13);
        owes(x, 0, 1, 2, 2, -13);
        owes(x, 0, 1, -1, 2, -13);
        owes(x, 0, 1, Integer.MAX_VALUE - 17, 6, -13);
        Due.due("balance(0)", x.balance(0), 0);
        x.sheet(1, 0, 0);
        owes(x, 1, 0, 0, 1, -13);
        x.sheet(2, 0, 2);
        owes(x, 2, 0, 0, 1, -13);
    }

    @Says("taken as a row of a LANE, from one on:")
    static void promise27UpToTheLastItem() {
        CoatPockets x = new CoatPockets();
        Rows.lay(x, 0, 0, -1, -1, 1, 2, 6, 2, 3, 7);
        owes(x, 0, 0, 5, 1, 7);
        owes(x, 0, 0, 2, 2, 13);
        x.sheet(1, 2, 24);
        Rows.fill(x, 1, 2, 21, 7, 0, 9);
        owes(x, 1, 2, 21, 1, 9);
        owes(x, 1, 2, 22, 1, -13);
        for (int i = 6; i < 21; i += 3) {
            Rows.fill(x, 1, 2, i, 6, 0, 1);
        }
        owes(x, 1, 2, 6, 6, 14);
        owes(x, 1, 2, 7, 6, -13);
    }

    @Says("NULL; CAST; INDEX; NOT:")
    static void promise27IndexAheadOfNot() {
        CoatPockets x = new CoatPockets();
        Rows.lay(x, 0, 1, 8, 8, 1000, 0);
        owes(x, 0, 1, 0, 2, -13);
        owes(x, 0, 1, 0, 1, -2);
        owes(x, 0, 1, 2, 1, -13);
        owes(x, 0, 0, 0, 1, -12);
        owes(x, 0, 0, 0, 7, -1);
    }

    @Says({"NOT: one is not as told (BOYS unlike", "0 .. 999;"})
    static void promise27NotBoys() {
        int[] none = {-1, 8, 9, 100, Integer.MIN_VALUE, Integer.MAX_VALUE};
        for (int boy : none) {
            not(boy, 1, 5);
            not(1, boy, 5);
        }
        for (int boy = 0; boy < 8; boy++) {
            not(boy, boy, 5);
        }
    }

    @Says("NOT: one is not as told (BOYS unlike, 0 .. 999;")
    static void promise27NotMarbles() {
        int[] none = {-1, 1000, 1001, Integer.MIN_VALUE, Integer.MAX_VALUE};
        for (int more : none) {
            not(0, 1, more);
        }
        CoatPockets x = new CoatPockets();
        Rows.lay(x, 0, 2, 0, 7, 0, 7, 0, 999);
        owes(x, 0, 2, 0, 2, 999);
    }

    @Says("with what the one OWES the other already 999 at most).")
    static void promise27NotWithWhatIsOwedAlready() {
        CoatPockets x = new CoatPockets();
        Rows.lay(x, 0, 2, 0, 1, 998, 0, 1, 999, 0, 1, 1);
        x.owe(0, 1, 1);
        x.owe(1, 0, 999);
        x.owe(0, 2, 999);
        owes(x, 0, 2, 3, 1, -2);
        owes(x, 0, 2, 0, 1, 998);
        owes(x, 0, 2, 6, 1, -2);
        Due.due("owe(0, 1, 998)", x.owe(0, 1, 998), 999);
        owes(x, 0, 2, 6, 1, 1);
        owes(x, 0, 2, 6, 1, -2);
        Due.due("owe(0, 1, 0)", x.owe(0, 1, 0), 999);
        owes(x, 0, 2, 3, 1, 999);
    }

    /** Debts of one call come one behind the other, so that the later one finds what the first brought. */
    @Says("with what the one OWES the other already 999 at most).")
    static void promise27NotTwoOfOnePairTogether() {
        CoatPockets x = new CoatPockets();
        Rows.lay(x, 0, 2, 0, 1, 500, 0, 1, 499, 0, 1, 1);
        owes(x, 0, 2, 0, 3, -2);
        Due.due("owe(0, 1, 0): none came", x.owe(0, 1, 0), 0);
        owes(x, 0, 2, 0, 2, 999);
        Due.due("owe(0, 1, 1)", x.owe(0, 1, 1), 999);
        owes(x, 0, 2, 0, 2, -2);
        Due.due("owe(0, 1, 0): neither came", x.owe(0, 1, 0), 1);
    }

    @Says("MARBLES more) of a SHEET")
    static void promise27OtherDebtsStay() {
        CoatPockets x = new CoatPockets();
        for (int k = 0; k < 64; k++) {
            x.owe(k / 8, k % 8, k);
        }
        Rows.lay(x, 0, 2, 7, 5, 900, 2, 3, 800);
        owes(x, 0, 2, 0, 2, 1700);
        for (int k = 0; k < 64; k++) {
            int more = k == 7 * 8 + 5 ? 900 : k == 2 * 8 + 3 ? 800 : 0;
            Due.due("owe(" + k / 8 + ", " + k % 8 + ", 0)", x.owe(k / 8, k % 8, k + more), k / 8 == k % 8 ? -1 : k + more);
        }
        owes(x, 0, 2, 0, 1, -2);
        owes(x, 0, 2, 3, 1, -2);
        x.owe(7, 5, 99);
        owes(x, 0, 2, 0, 1, 900);
    }

    @Says("What is refused changes nothing, but as told.")
    static void promise27NotTheLastOfSix() {
        CoatPockets x = new CoatPockets();
        Rows.lay(x, 0, 0, 0, 1, 1, 1, 2, 2, 2, 3, 3, 3, 4, 4, 4, 5, 5, 5, 5, 6);
        owes(x, 0, 0, 0, 6, -2);
        for (int boy = 0; boy < 7; boy++) {
            Due.due("owe(" + boy + ", " + (boy + 1) + ", 0)", x.owe(boy, boy + 1, 0), 0);
        }
        x.item(0, 0, 16, 6);
        owes(x, 0, 0, 0, 6, 21);
    }

    @Says({"of a SHEET, taken as a row of a LANE, from one on: together more.", "or a row of a LANE: 0 bytes, 1 shorts, 2 ints"})
    static void promise27OfEachLane() {
        CoatPockets x = new CoatPockets();
        for (int lane = 0; lane < 3; lane++) {
            Rows.lay(x, lane, lane, 7, 0, 127, 7, 0, 128);
            owes(x, lane, lane, 0, 1, 127);
            owes(x, lane, lane, 3, 1, lane == 0 ? -2 : 128);
            x.owe(7, 0, 0);
        }
    }
}
