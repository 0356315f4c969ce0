/** Promises 27 to 32: sheets, told apart by the debts that stand in them. */
final class SheetsTest {
    public static void main(String[] args) {
        sheets();
        items();
        films();
        owes();
        owesRefused();
        copies();
        copiesRefused();
        Due.end();
    }

    private static void sheets() {
        CoatPockets x = new CoatPockets();
        int[][] bad = {
            {-1, 0, 1}, {4, 0, 1}, {0, -1, 1}, {0, 3, 1}, {0, 0, 25}, {4, 0, -1}, {0, 3, -1}, {0, 0, Integer.MAX_VALUE}
        };
        for (int[] b : bad) {
            Due.due("sheet(" + b[0] + ", " + b[1] + ", " + b[2] + ")", x.sheet(b[0], b[1], b[2]), -1);
        }
        Due.due("sheet(0, 0, -1)", x.sheet(0, 0, -1), -14);
        Due.due("sheet(0, 0, least)", x.sheet(0, 0, Integer.MIN_VALUE), -14);
        for (int s = 0; s < 4; s++) {
            Due.due("drop(" + s + ") of nothing", x.drop(s), -11);
        }
        Due.due("sheet(0, 2, 0)", x.sheet(0, 2, 0), 0);
        Due.due("sheet(3, 0, 24)", x.sheet(3, 0, 24), 24);
        Due.due("drop(3)", x.drop(3), 24);
        Due.due("drop(3) again", x.drop(3), -11);
        Due.due("sheet(0, 2, -1) over a row", x.sheet(0, 2, -1), -14);
        Due.due("drop(0): it stayed", x.drop(0), 0);
        Due.due("drop(-1)", x.drop(-1), -1);
        Due.due("drop(4)", x.drop(4), -1);
    }

    /** The item, as a debt of it tells: -2 if it is not 0 .. 999. Items 0, 1 must be 0, 1. */
    private static int told(CoatPockets x, int s, int lane) {
        int was = x.owe(0, 1, 0);
        int answer = x.owes(s, lane, 0, 1);
        x.owe(0, 1, was);
        return answer;
    }

    private static void items() {
        CoatPockets x = new CoatPockets();
        int[][] of = {
            // v, then what it is as a byte, a short, an int: -2 if no debt.
            {0, 0, 0, 0}, {127, 127, 127, 127}, {128, -2, 128, 128}, {255, -2, 255, 255}, {256, 0, 256, 256},
            {511, -2, 511, 511}, {300, 44, 300, 300}, {999, -2, 999, 999}, {1000, -2, -2, -2}, {-1, -2, -2, -2},
            {65536 + 5, 5, 5, -2}, {-65536 + 5, 5, 5, -2}, {-256, 0, -2, -2}, {32768, 0, -2, -2},
            {Integer.MIN_VALUE, 0, 0, -2}, {Integer.MIN_VALUE + 77, 77, 77, -2}, {Integer.MAX_VALUE, -2, -2, -2}
        };
        for (int lane = 0; lane < 3; lane++) {
            x.sheet(lane, lane, 3);
            x.item(lane, lane, 1, 1);
            for (int[] one : of) {
                Due.due("item(" + lane + ", " + lane + ", 2, " + one[0] + ")", x.item(lane, lane, 2, one[0]), 1);
                Due.due("it is then, in lane " + lane, told(x, lane, lane), one[1 + lane]);
            }
        }
        Due.due("a new row", x.sheet(0, 0, 3), 3);
        Due.due("it is empty: boys are alike", x.owes(0, 0, 0, 1), -2);
        newRows();
        int[][] bad = {{-1, 0, 0}, {4, 0, 0}, {0, -1, 0}, {0, 3, 0}, {4, 0, -1}};
        for (int[] b : bad) {
            Due.due("item(" + b[0] + ", " + b[1] + ", " + b[2] + ", 5)", x.item(b[0], b[1], b[2], 5), -1);
        }
        Due.due("item of nothing", x.item(3, 0, -1, 5), -11);
        Due.due("item of another lane", x.item(0, 1, -1, 5), -12);
        int[] out = {-1, 3, 24, Integer.MIN_VALUE, Integer.MAX_VALUE};
        for (int i : out) {
            Due.due("item(0, 0, " + i + ", 5)", x.item(0, 0, i, 5), -13);
        }
        x.sheet(3, 1, 0);
        Due.due("item of an empty row", x.item(3, 1, 0, 5), -13);
    }

    private static void newRows() {
        for (int s = 0; s < 4; s++) {
            CoatPockets x = new CoatPockets();
            x.sheet(s, 2, 24);
            for (int i = 0; i < 24; i++) {
                x.item(s, 2, i, 9);
            }
            x.sheet(s, 2, 24);
            for (int i = 0; i < 24; i += 3) {
                x.item(s, 2, i + 1, 1);
                Due.due("owes(" + s + ", 2, " + i + ", 1) of a new row", x.owes(s, 2, i, 1), 0);
                x.item(s, 2, i, 2);
                x.item(s, 2, i + 2, 5);
            }
            x.sheet(s, 2, 24);
            for (int i = 0; i < 24; i += 3) {
                x.item(s, 2, i, 1);
                Due.due("owes(" + s + ", 2, " + i + ", 1) of a newer row", x.owes(s, 2, i, 1), 0);
            }
            x.drop(s);
            x.sheet(s, 0, 3);
            x.item(s, 0, 0, 1);
            Due.due("a new row behind a drop", x.owes(s, 0, 0, 1), 0);
        }
    }

    private static void films() {
        CoatPockets x = new CoatPockets();
        x.sheet(0, 0, 6);
        x.sheet(1, 1, 0);
        Due.due("film of none at the end", x.film(0, 0, 6), 0);
        Due.due("film of none behind the end", x.film(0, 0, 7), -13);
        Due.due("film of none ahead", x.film(0, 0, -1), -13);
        Due.due("film of none on an empty row", x.film(1, 1, 0), 0);
        Due.school(x, "0h3,1,5");
        x.thing(0, 4);
        x.thing(0, 6);
        x.thing(0, 5);
        x.put(2, 2);
        Due.due("film(0, 0, 0)", x.film(0, 0, 0), 3);
        Due.due("where all are", x.owes(0, 0, 0, 1), 12);
        Due.due("balance(4)", x.balance(4), -12);
        Due.due("balance(6)", x.balance(6), 12);
        Due.due("film(0, 0, 3)", x.film(0, 0, 3), 3);
        Due.due("twice now", x.owes(0, 0, 0, 2), 24);
        Due.due("film(0, 0, 4)", x.film(0, 0, 4), -13);
        int[] out = {-1, Integer.MIN_VALUE, Integer.MAX_VALUE};
        for (int from : out) {
            Due.due("film(0, 0, " + from + ")", x.film(0, 0, from), -13);
        }
        Due.due("what is refused changes nothing", x.owes(0, 0, 0, 2), 24);
        Due.due("film of another lane", x.film(0, 1, 9), -12);
        Due.due("film of nothing", x.film(2, 1, 9), -11);
        int[][] bad = {{-1, 0}, {4, 0}, {0, -1}, {0, 3}};
        for (int[] b : bad) {
            Due.due("film(" + b[0] + ", " + b[1] + ", 0)", x.film(b[0], b[1], 0), -1);
        }
    }

    private static void fill(CoatPockets x, int s, int lane, int... items) {
        for (int i = 0; i < items.length; i++) {
            x.item(s, lane, i, items[i]);
        }
    }

    private static void owes() {
        CoatPockets x = new CoatPockets();
        x.sheet(0, 2, 24);
        fill(x, 0, 2, 9, 0, 1, 500, 0, 1, 499, 1, 0, 7, 7, 6, 0, 3, 4, 1, 5, 4, 2);
        Due.due("six", x.owes(0, 2, 1, 6), 1009);
        Due.due("owe(0, 1, 0)", x.owe(0, 1, 0), 999);
        Due.due("owe(1, 0, 0)", x.owe(1, 0, 0), 7);
        Due.due("owe(3, 4, 0)", x.owe(3, 4, 0), 1);
        Due.due("owe(5, 4, 0)", x.owe(5, 4, 0), 2);
        Due.due("two debts alike", x.owes(0, 2, 1, 2), 999);
        x.owe(0, 1, 1);
        Due.due("together more than 999", x.owes(0, 2, 1, 2), -2);
        Due.due("nothing is changed", x.owe(0, 1, 0), 1);
        x.item(0, 2, 6, 500);
        Due.due("two of a row are too much together", x.owes(0, 2, 1, 2), -2);
        Due.due("neither came", x.owe(0, 1, 0), 0);
        Due.due("the last row that fits", x.owes(0, 2, 21, 1), -2);
        fill(x, 0, 2, 1, 2, 0);
        Due.due("one of 0", x.owes(0, 2, 0, 1), 0);
    }

    private static void owesRefused() {
        CoatPockets x = new CoatPockets();
        x.sheet(0, 1, 7);
        int[][] bad = {{-1, 1, 0, 1}, {4, 1, 0, 1}, {0, -1, 0, 1}, {0, 3, 0, 1}, {0, 1, 0, 0}, {0, 1, 0, 7}, {0, 1, 0, -1}};
        for (int[] b : bad) {
            Due.due("owes(" + b[0] + ", " + b[1] + ", 0, " + b[3] + ")", x.owes(b[0], b[1], b[2], b[3]), -1);
        }
        Due.due("bad ahead of nothing", x.owes(1, 1, 0, 0), -1);
        Due.due("owes of nothing", x.owes(1, 1, -1, 1), -11);
        Due.due("owes of another lane", x.owes(0, 2, -1, 1), -12);
        int[] out = {-1, 5, 7, Integer.MIN_VALUE, Integer.MAX_VALUE};
        for (int from : out) {
            Due.due("owes(0, 1, " + from + ", 1)", x.owes(0, 1, from, 1), -13);
        }
        Due.due("owes(0, 1, 0, 3)", x.owes(0, 1, 0, 3), -13);
        Due.due("owes(0, 1, 2, 2)", x.owes(0, 1, 2, 2), -13);
        int[][] rows = {{0, 0, 5}, {-1, 0, 5}, {0, -1, 5}, {8, 0, 5}, {0, 8, 5}, {0, 1, -1}, {0, 1, 1000}};
        for (int[] row : rows) {
            fill(x, 0, 1, 2, 3, 4, row[0], row[1], row[2]);
            Due.due("owes of " + row[0] + ", " + row[1] + ", " + row[2], x.owes(0, 1, 0, 2), -2);
        }
        Due.due("nothing came", x.balance(3), 0);
        fill(x, 0, 1, 2, 3, 4, 0, 1, 999);
        Due.due("two that can be", x.owes(0, 1, 0, 2), 1003);
        Due.due("balance(3)", x.balance(3), 4);
    }

    private static void copies() {
        CoatPockets x = new CoatPockets();
        x.sheet(0, 0, 6);
        fill(x, 0, 0, 0, 1, 2, 3, 4, 5);
        Due.due("one on in a row", x.copy(0, 0, 0, 1, 5), 5);
        // 0 0 1 2 3 4
        Due.due("as if taken ahead", x.owes(0, 0, 1, 1) + 10 * x.owes(0, 0, 3, 1), 42);
        Due.due("balance(1)", x.balance(1), 2);
        Due.due("back in a row", x.copy(0, 2, 0, 0, 4), 4);
        // 1 2 3 4 3 4
        Due.due("1 owes 2 three more", x.owes(0, 0, 0, 2), 7);
        Due.due("owe(1, 2, 0)", x.owe(1, 2, 0), 3);
        Due.due("owe(4, 3, 0)", x.owe(4, 3, 0), 4);
        x.sheet(1, 0, 3);
        Due.due("to another", x.copy(0, 3, 1, 0, 3), 3);
        Due.due("4 owes 3 four", x.owes(1, 0, 0, 1), 4);
        Due.due("the first stays", x.owes(0, 0, 0, 2), 7);
        x.item(1, 0, 0, 5);
        Due.due("each is its own", x.owes(0, 0, 0, 2), 7);
        Due.due("none", x.copy(0, 6, 1, 3, 0), 0);
        Due.due("all of it onto itself", x.copy(0, 0, 0, 0, 6), 6);
        Due.due("it stays", x.owes(0, 0, 0, 2), 7);
    }

    private static void copiesRefused() {
        CoatPockets x = new CoatPockets();
        x.sheet(0, 2, 5);
        x.sheet(1, 2, 3);
        x.sheet(2, 1, 3);
        int[][] bad = {{-1, 0}, {4, 0}, {0, -1}, {0, 4}, {3, 4}};
        for (int[] b : bad) {
            Due.due("copy(" + b[0] + ", 0, " + b[1] + ", 0, 1)", x.copy(b[0], 0, b[1], 0, 1), -1);
        }
        Due.due("from nothing", x.copy(3, 0, 0, 0, -1), -11);
        Due.due("to nothing", x.copy(2, 0, 3, 0, -1), -11);
        Due.due("nothing to nothing", x.copy(3, 0, 3, 0, 0), -11);
        Due.due("unlike lanes", x.copy(0, -1, 2, 0, -1), -12);
        int[][] out = {
            {0, 0, -1}, {0, 0, 4}, {3, 0, 3}, {0, 1, 3}, {-1, 0, 1}, {0, -1, 1}, {6, 0, 0}, {0, 4, 0}, {-1, 0, 0},
            {0, -1, 0}, {Integer.MAX_VALUE, 0, 1}, {0, Integer.MAX_VALUE, 1}, {0, 0, Integer.MAX_VALUE},
            {Integer.MIN_VALUE, 0, 1}, {0, 0, Integer.MIN_VALUE}, {Integer.MAX_VALUE, 0, Integer.MAX_VALUE}
        };
        for (int[] o : out) {
            Due.due("copy(0, " + o[0] + ", 1, " + o[1] + ", " + o[2] + ")", x.copy(0, o[0], 1, o[1], o[2]), -13);
        }
        Due.due("none at both ends", x.copy(0, 5, 1, 3, 0), 0);
        Due.due("to the ends", x.copy(0, 2, 1, 0, 3), 3);
    }
}
