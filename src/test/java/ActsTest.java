/** Promises 12 to 16, with the seed of 24: acts one by one. */
final class ActsTest {
    public static void main(String[] args) {
        puttingAndTaking();
        searching();
        giving();
        sweets();
        frogs();
        notes();
        draws();
        bells();
        Due.end();
    }

    private static void puttingAndTaking() {
        CoatPockets x = new CoatPockets();
        Due.school(x, "012,03");
        x.thing(0, 0);
        x.thing(0, 3);
        int[][] bad = {{2, 0}, {-1, 0}, {0, 2}, {0, -1}, {Integer.MAX_VALUE, 0}, {0, Integer.MIN_VALUE}};
        for (int[] b : bad) {
            Due.due("put(" + b[0] + ", " + b[1] + ")", x.put(b[0], b[1]), -1);
            Due.due("take(" + b[0] + ", " + b[1] + ")", x.take(b[0], b[1]), -1);
        }
        Due.due("put of what another has", x.put(1, 0), -2);
        Due.due("take of what is in hands", x.take(0, 0), -2);
        Due.due("put(0, 1)", x.put(0, 1), 0);
        Due.due("where(0)", x.where(0), 11);
        Due.due("put of what is in a pocket", x.put(0, 1), -2);
        Due.due("take from another pocket", x.take(0, 0), -2);
        Due.due("take(0, 1)", x.take(0, 1), 0);
        Due.due("where(0) again", x.where(0), 0);
        Due.due("put(0, 0)", x.put(0, 0), 0);
        x.bell();
        Due.due("put by the one whose turn it is", x.put(1, 1), 3);
        Due.due("take by the one whose turn it is", x.take(0, 0), 1);
        Due.due("where(0) then", x.where(0), 1);
        x.bell();
        Due.due("put of one whose turn is over", x.put(0, 0), -2);
    }

    private static void searching() {
        CoatPockets x = new CoatPockets();
        Due.school(x, "0h3,1h3");
        linings();
        for (int t = 0; t < 4; t++) {
            x.thing(t == 2 ? 2 : 0, t == 3 ? 1 : 0);
        }
        Due.due("search of an empty lining", x.search(0), 0);
        for (int t = 0; t < 4; t++) {
            x.put(t, t == 3 ? 1 : 0);
        }
        Due.due("what is in the pocket does not count", x.search(0), 0);
        x.seed(0);
        int fallen = x.bell();
        Due.due("bell()", fallen, x.count(4));
        int in = Integer.bitCount(x.of(0, 4));
        int other = x.of(1, 4);
        Due.due("something fell", in > 0);
        Due.due("take from a lining", x.take(0, 0), -2);
        Due.due("search(0)", x.search(0), in);
        Due.due("of(0, 4)", x.of(0, 4), 0);
        Due.due("of(0, 3)", x.of(0, 3), 7);
        Due.due("the other lining stays", x.of(1, 4), other);
        Due.due("search(0) again", x.search(0), 0);
        Due.due("search(2)", x.search(2), -1);
        Due.due("search(-1)", x.search(-1), -1);
    }

    private static void linings() {
        CoatPockets x = new CoatPockets();
        Due.school(x, "0,1,2,3h3");
        x.thing(0, 3);
        x.put(0, 3);
        x.seed(0);
        Due.due("it falls", x.bell(), 1);
        Due.due("where(0) in a lining", x.where(0), 23);
        for (int c = 0; c < 4; c++) {
            Due.due("of(" + c + ", 4) of linings", x.of(c, 4), c == 3 ? 1 : 0);
            Due.due("search(" + c + ") of linings", x.search(c), c == 3 ? 1 : 0);
        }
        Due.due("where(0) in a pocket", x.where(0), 13);
    }

    private static void giving() {
        CoatPockets x = new CoatPockets();
        Due.school(x, "01,2,0");
        x.thing(0, 0);
        x.thing(0, 1);
        int[][] bad = {{2, 0}, {-1, 0}, {0, -1}, {0, 8}, {Integer.MIN_VALUE, 0}, {0, Integer.MAX_VALUE}};
        for (int[] b : bad) {
            Due.due("give(" + b[0] + ", " + b[1] + ")", x.give(b[0], b[1]), -1);
        }
        Due.due("the other wears none", x.give(0, 1), -2);
        Due.due("the other has none at all", x.give(0, 7), -2);
        Due.due("who has it wears none", x.give(1, 2), -2);
        Due.due("the other has it", x.give(0, 0), -2);
        Due.due("give(0, 2)", x.give(0, 2), 0);
        Due.due("where(0)", x.where(0), 2);
        Due.due("give back", x.give(0, 0), 2);
        x.put(0, 0);
        Due.due("it is in a pocket", x.give(0, 2), -2);
        x.bell();
        Due.due("give(1, 2) as 1 wears one", x.give(1, 2), 1);
        CoatPockets y = new CoatPockets();
        y.thing(0, 0);
        Due.due("no coats", y.give(0, 1), -2);
    }

    private static void sweets() {
        CoatPockets x = new CoatPockets();
        Due.school(x, "01h3,2");
        x.thing(1, 0);
        x.thing(1, 2);
        x.thing(1, 2);
        x.put(0, 0);
        x.put(1, 1);
        Due.due("told(0, 2) ahead", x.told(0, 2), 8);
        Due.due("a sweet falls nowhere", x.bell(), 0);
        Due.due("the draw is left", x.seed(1), 1);
        Due.due("where(0)", x.where(0), 30);
        Due.due("eaten by who wore it ahead", x.told(0, 2), 0);
        Due.due("told(1, 2)", x.told(1, 2), 2);
        Due.due("in hands it stays", x.where(2), 2);
        Due.due("told(2, 2)", x.told(2, 2), 8);
        Due.due("put of an eaten one", x.put(0, 0), -2);
        Due.due("take of an eaten one", x.take(0, 0), -2);
        Due.due("give of an eaten one", x.give(0, 2), -2);
    }

    private static void frogs() {
        CoatPockets x = new CoatPockets();
        Due.school(x, "0h3,0h3,0h3");
        x.thing(3, 0);
        x.put(0, 1);
        Due.due("a frog falls nowhere", x.bell(), 0);
        Due.due("where(0)", x.where(0), 12);
        x.bell();
        Due.due("behind the last the first", x.where(0), 10);
        x.bell();
        Due.due("on", x.where(0), 11);
        Due.due("the draw is left", x.seed(1), 1);
        Due.due("it is not eaten", x.told(0, 2), 8);
        Due.school(x, "0");
        x.put(0, 0);
        x.bell();
        Due.due("one coat alone", x.where(0), 10);
    }

    private static void notes() {
        CoatPockets x = new CoatPockets();
        Due.school(x, "012,3h3");
        x.thing(2, 0);
        x.thing(2, 3);
        x.thing(0, 0);
        Due.due("unread", x.told(0, 1), 0);
        x.put(0, 0);
        x.put(2, 0);
        Due.due("read as it is put", x.told(0, 1), 1);
        x.bell();
        Due.due("read behind a bell", x.told(0, 1), 3);
        x.take(0, 0);
        x.bell();
        Due.due("not read in hands", x.told(0, 1), 3);
        Due.due("a knife is not read", x.told(2, 1), 0);
        x.hole(0, 3);
        CoatPockets y = new CoatPockets();
        Due.school(y, "01h3");
        y.thing(2, 0);
        y.put(0, 0);
        y.seed(0);
        Due.due("it falls", y.bell(), 1);
        Due.due("not read in a lining", y.told(0, 1), 1);
        y.search(0);
        Due.due("read as it comes there", y.told(0, 1), 3);
    }

    private static void draws() {
        CoatPockets x = new CoatPockets();
        Due.school(x, "0h1,0h2,0h3,0");
        for (int t = 0; t < 8; t++) {
            x.thing(t == 5 ? 3 : 0, 0);
        }
        long draw = 1;
        for (int round = 0; round < 40; round++) {
            int fell = 0;
            for (int t = 0; t < 8; t++) {
                x.take(t, (x.where(t) - 10) & 3);
                x.put(t, (t + round) % 4);
            }
            for (int t = 0; t < 8; t++) {
                int hole = ((t + round) % 4 + 1) % 4;
                if (hole > 0 && t != 5) {
                    draw = (draw * 1103515245L + 12345) % (1L << 31);
                    fell += draw / 65536 % 4 < hole ? 1 : 0;
                }
            }
            Due.due("bell " + round, x.bell(), fell);
            for (int c = 0; c < 4 && round % 3 == 0; c++) {
                x.search(c);
            }
            if (round % 3 != 0) {
                x = again(x);
            }
        }
        Due.due("the draw", x.seed(77), draw);
        Due.due("seed(-1)", x.seed(-1), -1);
        Due.due("seed(least)", x.seed(Integer.MIN_VALUE), -1);
        Due.due("seed(most)", x.seed(Integer.MAX_VALUE), 77);
        Due.due("seed(0)", x.seed(0), Integer.MAX_VALUE);
    }

    /** A like one whose things are all in hands, with the same draw. */
    private static CoatPockets again(CoatPockets x) {
        CoatPockets y = new CoatPockets();
        Due.school(y, "0h1,0h2,0h3,0");
        for (int t = 0; t < 8; t++) {
            y.thing(t == 5 ? 3 : 0, 0);
        }
        y.seed(x.seed(1));
        return y;
    }

    private static void bells() {
        CoatPockets x = new CoatPockets();
        Due.school(x, "012,34,5");
        for (int k = 1; k <= 7; k++) {
            Due.due("bell()", x.bell(), 0);
            Due.due("count(2)", x.count(2), k);
            Due.due("of(0, 0)", x.of(0, 0), k % 3);
            Due.due("of(1, 0)", x.of(1, 0), 3 + k % 2);
            Due.due("of(2, 0)", x.of(2, 0), 5);
        }
        // Behind 512 calls all is free; that 9999 bells are the most is looked at all the same.
        for (int k = 8; k <= 9999; k++) {
            x.bell();
        }
        Due.due("count(2) at the most", x.count(2), 9999);
        Due.due("bell() at the most", x.bell(), -3);
        Due.due("count(2) behind it", x.count(2), 9999);
        Due.due("a day at the most", Due.day(x, "s0;b;s0"), 1);
        Due.due("of(0, 0) at the most", x.of(0, 0), 0);
    }
}
