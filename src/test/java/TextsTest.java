/** Promises 8 to 10: the tape, schools and days as texts. */
final class TextsTest {
    public static void main(String[] args) {
        type();
        schools();
        schoolFaults();
        schoolInPlace();
        dayFaults();
        days();
        Due.end();
    }

    private static void type() {
        CoatPockets x = new CoatPockets();
        int[] badCounts = {0, -1, 9, Integer.MIN_VALUE, Integer.MAX_VALUE};
        for (int n : badCounts) {
            Due.due("type(.., " + n + ")", x.type(0x3031323334353637L, n), -1);
        }
        Due.due("type of 31", x.type(31, 1), -1);
        Due.due("type of 127", x.type(127, 1), -1);
        Due.due("type of 126 and 127", x.type(0x7e7f, 2), -1);
        Due.due("type of 0 and 32", x.type(32, 2), -1);
        Due.due("type of a sign", x.type(-1L, 8), -1);
        Due.due("type of 160", x.type(0xa0, 1), -1);
        Due.due("type of 126", x.type(126, 1), 1);
        Due.due("type of 32", x.type(32, 1), 2);
        Due.due("bytes above the lowest n", x.type(0xffffffffffffff30L, 1), 3);
        Due.due("school() of ~ 0", x.school(), -20);
        Due.due("the highest byte is the first", Due.type(x, "5,6h1"), 5);
        Due.due("school()", x.school(), 2);
        Due.due("of(0, 0)", x.of(0, 0), 5);
        for (int k = 1; k <= 12; k++) {
            Due.due("type of eight", x.type(0x2020202020202020L, 8), 8 * k);
        }
        Due.due("type of five more", x.type(0x3030303030L, 5), -3);
        Due.due("a bad byte, full too", x.type(0x3030303000L, 5), -1);
        Due.due("type of four more", x.type(0x20202030L, 4), 100);
        Due.due("type of one more", x.type(0x30, 1), -3);
        Due.due("school() of 99 blanks and a boy", x.school(), 1);
        Due.due("type behind it", x.type(0x30, 1), 1);
    }

    private static void schools() {
        CoatPockets x = new CoatPockets();
        Due.due("school of four", Due.school(x, "0123h3,4567h0,7h1, 6 5 h 2 "), 4);
        int[][] want = {
            {0, 4, 3, 0, 0, 0, 1, 2, 3}, {4, 4, 0, 0, 0, 4, 5, 6, 7}, {7, 1, 1, 0, 0, 7, -4, -4, -4},
            {6, 2, 2, 0, 0, 6, 5, -4, -4}
        };
        for (int c = 0; c < 4; c++) {
            for (int what = 0; what < 9; what++) {
                Due.due("of(" + c + ", " + what + ")", x.of(c, what), want[c][what]);
            }
        }
        Due.due("the tape is empty then", x.type(0x30, 1), 1);
    }

    private static void schoolFaults() {
        CoatPockets x = new CoatPockets();
        Due.school(x, "67h2");
        String[] texts = {
            "", " ", "8", "9", ",", "h", "00", "010", "0 0", "01234", "0123 4", "0123h4", "0h", "0h ", "0h4", "0h1h",
            "0h12", "0,", "0, ", "0,,", "0,8", "0,h1", "01h-1", "0;1", "0,1,2,3,", "0,1,2,3,4", "0,1,2,3h1,", "0H1",
            "  0123  h  3  ,  8", "0,1,2,33", "a", "0,1,2,3,x", "0h/", "0h:", "/", ":", "0121h9"
        };
        int[] places = {
            0, 1, 0, 0, 0, 0, 1, 2, 2, 4, 5, 5, 2, 3, 2, 3,
            3, 2, 3, 2, 2, 2, 3, 1, 7, 7, 9, 1,
            17, 7, 0, 7, 2, 2, 0, 0, 3
        };
        for (int i = 0; i < texts.length; i++) {
            Due.due("school \"" + texts[i] + "\"", Due.school(x, texts[i]), -20 - places[i]);
            Due.due("the tape is empty behind \"" + texts[i] + "\"", x.type(0x30, 1), 1);
            x.school();
            Due.school(x, "67h2");
            Due.school(x, texts[i]);
            Due.due("the coat that was told stays", x.of(0, 6), 7);
            Due.due("its hole stays", x.of(0, 2), 2);
        }
        Due.due("count(0)", x.count(0), 1);
    }

    private static void schoolInPlace() {
        CoatPockets x = new CoatPockets();
        Due.school(x, "10h3,1");
        for (int kind = 0; kind < 4; kind++) {
            x.thing(kind, 1);
        }
        x.thing(2, 6);
        x.thing(0, 1);
        x.put(0, 0);
        x.put(1, 0);
        x.put(2, 1);
        x.put(3, 0);
        x.seed(0);
        x.bell();
        int[] ahead = {20, 30, 11, 11, 6, 1};
        for (int t = 0; t < ahead.length; t++) {
            Due.due("where(" + t + ") ahead", x.where(t), ahead[t]);
        }
        Due.due("a fault", Due.school(x, "10h3,1,"), -27);
        Due.due("where(0) behind a fault", x.where(0), 20);
        Due.due("of(0, 0) behind a fault", x.of(0, 0), 0);
        Due.due("school", Due.school(x, "54"), 1);
        int[] behind = {0, 30, 0, 0, 6, 1};
        for (int t = 0; t < behind.length; t++) {
            Due.due("where(" + t + ") behind", x.where(t), behind[t]);
        }
        Due.due("told(2, 1): it stays read", x.told(2, 1), 2);
        Due.due("told(1, 2): it stays eaten", x.told(1, 2), 1);
        Due.due("the bells stay", x.count(2), 1);
        Due.due("the draw stays", x.seed(1), 12345);
        Due.due("the first wears it", x.of(0, 0), 5);
        Due.due("other coats are gone", x.of(1, 0), -1);
        Due.school(x, "6h1,321h2");
        x.put(4, 0);
        Due.due("where(4) in the first pocket", x.where(4), 10);
        Due.school(x, "4");
        Due.due("where(4) out of the first pocket", x.where(4), 0);
        Due.due("a coat behind those of the school", x.coat(5, 1, 0), 1);
        Due.due("it has one boy", x.of(1, 1), 1);
        Due.due("it is his", x.of(1, 0), 5);
        Due.due("it has no hole", x.of(1, 2), 0);
    }

    private static void dayFaults() {
        CoatPockets x = new CoatPockets();
        Due.school(x, "01,1");
        x.thing(0, 0);
        x.thing(0, 0);
        String[] texts = {
            "", "  ", "x", "p", "p ", "p0", "p0>", "p2>0", "p0>2", "p0-0", "p0>0;", "p0>0; ", "p0>0p", "p0>0;;", "t2>0",
            "t0>2", "t0 0", "s", "s2", "s>0", "g", "g2>0", "g0>8", "g0>9", "g0>", "b;", "bb", "b b", "b;x", "b0", "B",
            " p 0 > 0 ; b , b", "p1>1;p1>0;g1>7;t1>1;s1;s0;b;b;s", "g0>:", "p/>0", ";b"
        };
        int[] places = {
            0, 2, 0, 1, 2, 2, 3, 1, 3, 2, 5, 6, 4, 5, 1,
            3, 3, 1, 1, 1, 1, 1, 3, 3, 3, 2, 1, 2, 2, 1, 0,
            13, 31, 3, 1, 0
        };
        for (int i = 0; i < texts.length; i++) {
            Due.due("day \"" + texts[i] + "\"", Due.day(x, texts[i]), -20 - places[i]);
            Due.due("the tape is empty behind \"" + texts[i] + "\"", x.type(0x20, 1), 1);
            x.day();
        }
        Due.due("nothing is done", x.count(2) + x.count(3), 0);
    }

    private static void days() {
        CoatPockets x = new CoatPockets();
        Due.school(x, "01,12h3");
        x.thing(0, 0);
        x.thing(2, 0);
        Due.due("a day", Due.day(x, "p0>0;b;t0>0"), 3);
        Due.due("where(0)", x.where(0), 1);
        Due.due("the first refused ends it", Due.day(x, " b ; p0>0 ; b;b;b"), 1);
        Due.due("count(2)", x.count(2), 2);
        Due.due("the first is refused", Due.day(x, "t1>0;b"), 0);
        Due.due("count(2) behind", x.count(2), 2);
        Due.due("giving", Due.day(x, "g1>1;g0>0;g0>0;b"), 2);
        Due.due("where(1)", x.where(1), 1);
        Due.due("where(0) behind", x.where(0), 0);
        x.seed(0);
        Due.due("into the lining, found again", Due.day(x, "p1>1;b;s1;t1>1"), 4);
        Due.due("where(1)", x.where(1), 2);
        Due.due("told(1, 1)", x.told(1, 1), 6);
        Due.due("fifty bells", Due.day(x, "b;".repeat(49) + "b"), 50);
        Due.due("count(2)", x.count(2), 53);
        Due.due("searching is never refused", Due.day(x, "s0;s0;s1"), 3);
    }
}
