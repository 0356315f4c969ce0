/** Sheets, as tests fill them and look into them: items can be told by debts alone. */
final class Rows {
    /** What stands where an item is not 0 .. 999, so that it is no debt. */
    static final int NO_DEBT = -2;

    private Rows() {
    }

    static void fill(CoatPockets x, int s, int lane, int from, int... items) {
        for (int i = 0; i < items.length; i++) {
            Due.due("item(" + s + ", " + lane + ", " + (from + i) + ", " + items[i] + ")", x.item(s, lane, from + i, items[i]), 1);
        }
    }

    /** A sheet that holds these items. */
    static void lay(CoatPockets x, int s, int lane, int... items) {
        Due.due("sheet(" + s + ", " + lane + ", " + items.length + ")", x.sheet(s, lane, items.length), items.length);
        fill(x, s, lane, 0, items);
    }

    /** The items of a sheet from one on, each as a debt of boy 0 to boy 1 by way of sheet 3, which is used up. */
    static void holds(String when, CoatPockets x, int s, int lane, int from, int... want) {
        lay(x, 3, lane, 0, 1, 0);
        for (int i = 0; i < want.length; i++) {
            Due.due("copy to look", x.copy(s, from + i, 3, 2, 1), 1);
            x.owe(0, 1, 0);
            Due.due("item " + (from + i) + " of sheet " + s + " " + when, x.owes(3, lane, 0, 1), want[i]);
        }
        x.owe(0, 1, 0);
    }
}
