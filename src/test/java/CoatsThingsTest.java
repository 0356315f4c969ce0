/** Promises 1 to 7 and 11: coats and things as they are made and told. */
final class CoatsThingsTest {
    public static void main(String[] args) {
        newObject();
        coats();
        things();
        of();
        holes();
        counts();
        Due.end();
    }

    private static void newObject() {
        CoatPockets x = new CoatPockets();
        for (int what = 0; what < 6; what++) {
            Due.due("count(" + what + ") of a new one", x.count(what), 0);
        }
        Due.due("where(0) of a new one", x.where(0), -1);
        Due.due("told(0, 0) of a new one", x.told(0, 0), -1);
        Due.due("of(0, 0) of a new one", x.of(0, 0), -1);
        Due.due("hole(0, 0) of a new one", x.hole(0, 0), -1);
        Due.due("seed(5) of a new one", x.seed(5), 1);
        Due.due("restore() of a new one", x.restore(), -4);
        Due.due("payments() of a new one", x.payments(), 0);
        Due.due("bell() of a new one", x.bell(), 0);
    }

    private static void coats() {
        CoatPockets x = new CoatPockets();
        int[][] bad = {
            {0, 0, 0}, {0, -1, 0}, {0, 5, 0}, {-1, 1, 0}, {8, 1, 0}, {64, 2, 0}, {0, 2, 0}, {9, 2, 0}, {1, 3, 0},
            {01231, 4, 0}, {04321, 3, 0}, {010000, 4, 0}, {-1, 4, 0}, {1, 1, -1}, {1, 1, 4}, {Integer.MIN_VALUE, 4, 0},
            {Integer.MAX_VALUE, 4, 0}, {0, Integer.MAX_VALUE, 0}, {0, Integer.MIN_VALUE, 0}, {0, 33, 0}
        };
        for (int[] b : bad) {
            Due.due("coat(" + b[0] + ", " + b[1] + ", " + b[2] + ")", x.coat(b[0], b[1], b[2]), -1);
        }
        Due.due("count(0) behind bad ones", x.count(0), 0);
        Due.due("coat of 3, 2, 1, 0", x.coat(0123, 4, 3), 0);
        int[] told = {3, 4, 3, 0, 0, 3, 2, 1, 0};
        for (int what = 0; what < told.length; what++) {
            Due.due("of(0, " + what + ")", x.of(0, what), told[what]);
        }
        Due.due("coat of 7", x.coat(7, 1, 0), 1);
        int[] alone = {7, 1, 0, 0, 0, 7, -4, -4, -4};
        for (int what = 0; what < alone.length; what++) {
            Due.due("of(1, " + what + ")", x.of(1, what), alone[what]);
        }
        Due.due("coat of 0, 7, 6", x.coat(0670, 3, 2), 2);
        Due.due("of(2, 8)", x.of(2, 8), -4);
        Due.due("of(2, 7)", x.of(2, 7), 6);
        Due.due("coat of 0", x.coat(0, 1, 0), 3);
        Due.due("a fifth coat", x.coat(1, 1, 0), -3);
        Due.due("a fifth coat that is bad", x.coat(1, 1, 4), -1);
        Due.due("of(4, 0)", x.of(4, 0), -1);
    }

    private static void things() {
        CoatPockets x = new CoatPockets();
        int[][] bad = {{-1, 0}, {4, 0}, {0, -1}, {0, 8}, {Integer.MIN_VALUE, 0}, {0, Integer.MAX_VALUE}};
        for (int[] b : bad) {
            Due.due("thing(" + b[0] + ", " + b[1] + ")", x.thing(b[0], b[1]), -1);
        }
        for (int t = 0; t < 8; t++) {
            Due.due("where(" + t + ") ahead", x.where(t), -1);
            Due.due("thing(" + t % 4 + ", " + (7 - t) + ")", x.thing(t % 4, 7 - t), t);
            Due.due("where(" + t + ")", x.where(t), 7 - t);
            Due.due("told(" + t + ", 0)", x.told(t, 0), t % 4);
            Due.due("told(" + t + ", 1)", x.told(t, 1), 0);
            Due.due("told(" + t + ", 2)", x.told(t, 2), 8);
        }
        Due.due("a ninth thing", x.thing(0, 0), -3);
        Due.due("a ninth thing that is bad", x.thing(4, 0), -1);
        int[] none = {-1, 8, Integer.MIN_VALUE, Integer.MAX_VALUE};
        for (int t : none) {
            Due.due("where(" + t + ")", x.where(t), -1);
            Due.due("told(" + t + ", 0)", x.told(t, 0), -1);
        }
        Due.due("told(0, 3)", x.told(0, 3), -1);
        Due.due("told(0, -1)", x.told(0, -1), -1);
    }

    private static void of() {
        CoatPockets x = new CoatPockets();
        Due.school(x, "01h3,12");
        for (int t = 0; t < 4; t++) {
            x.thing(0, t % 2);
        }
        x.put(0, 0);
        x.put(2, 0);
        x.put(3, 1);
        Due.due("of(0, 3)", x.of(0, 3), 5);
        Due.due("of(1, 3)", x.of(1, 3), 8);
        x.seed(0);
        // The draws behind 0 by 65536: 0 falls at a hole of 3, then 21468 does.
        Due.due("bell()", x.bell(), 2);
        Due.due("of(0, 3) behind a bell", x.of(0, 3), 0);
        Due.due("of(0, 4) behind a bell", x.of(0, 4), 5);
        Due.due("of(1, 3) behind a bell", x.of(1, 3), 8);
        Due.due("of(1, 4) behind a bell", x.of(1, 4), 0);
        Due.due("of(0, 0) behind a bell", x.of(0, 0), 1);
        Due.due("of(0, 5) behind a bell", x.of(0, 5), 0);
        int[][] bad = {{0, -1}, {0, 9}, {2, 0}, {-1, 0}, {Integer.MAX_VALUE, 0}, {0, Integer.MIN_VALUE}};
        for (int[] b : bad) {
            Due.due("of(" + b[0] + ", " + b[1] + ")", x.of(b[0], b[1]), -1);
        }
    }

    private static void holes() {
        CoatPockets x = new CoatPockets();
        Due.school(x, "01h2,12");
        Due.due("hole(0, 3)", x.hole(0, 3), 2);
        Due.due("hole(0, 0)", x.hole(0, 0), 3);
        Due.due("hole(0, 0) again", x.hole(0, 0), 0);
        Due.due("hole(1, 1)", x.hole(1, 1), 0);
        Due.due("of(1, 2)", x.of(1, 2), 1);
        int[][] bad = {{0, -1}, {0, 4}, {2, 0}, {-1, 0}};
        for (int[] b : bad) {
            Due.due("hole(" + b[0] + ", " + b[1] + ")", x.hole(b[0], b[1]), -1);
        }
        Due.due("of(0, 2) behind bad ones", x.of(0, 2), 0);
    }

    private static void counts() {
        CoatPockets x = new CoatPockets();
        Due.school(x, "0h3,1");
        x.thing(0, 0);
        x.thing(1, 1);
        x.thing(1, 1);
        x.thing(3, 0);
        x.thing(2, 5);
        x.put(0, 0);
        x.put(1, 1);
        x.put(2, 1);
        x.put(3, 0);
        Due.due("count(3)", x.count(3), 4);
        x.seed(0);
        x.bell();
        int[] want = {2, 5, 1, 1, 1, 2};
        for (int what = 0; what < want.length; what++) {
            Due.due("count(" + what + ")", x.count(what), want[what]);
        }
        Due.due("count(-1)", x.count(-1), -1);
        Due.due("count(6)", x.count(6), -1);
    }
}
