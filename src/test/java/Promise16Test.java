/** Promise 16: bell. */
final class Promise16Test {
    /** Seeds by what remains (0 .. 3) of the draw that comes behind them. */
    private static final int[] SEEDS = {0, 4, 1, 3};

    public static void main(String[] args) throws ReflectiveOperationException {
        Due.run(Promise16Test.class);
    }

    @Says("A BELL: how many THINGS fell into LININGS.")
    static void promise16NoneAndAllFall() {
        Due.due("no coats, no things", new CoatPockets().bell(), 0);
        CoatPockets x = Due.of("0,1", 0, 0, 0);
        x.put(0, 0);
        Due.due("none fall", x.bell(), 0);
        CoatPockets y = Due.of("0h3,0h3,0h3,0h3", 0, 0, 0, 0, 0, 0, 0, 0, 0);
        for (int t = 0; t < 8; t++) {
            y.put(t, t / 2);
        }
        int seed = allFallBehind();
        y.seed(seed);
        Due.due("all fall behind seed " + seed, y.bell(), 8);
        Due.places("in linings", y, 20, 20, 21, 21, 22, 22, 23, 23);
    }

    private static int allFallBehind() {
        for (int seed = 0; seed < 10000; seed++) {
            long draw = seed;
            int falls = 0;
            for (int k = 0; k < 8; k++) {
                draw = (draw * 1103515245L + 12345L) % 2147483648L;
                falls += draw / 65536 % 4 < 3 ? 1 : 0;
            }
            if (falls == 8) {
                return seed;
            }
        }
        return -1;
    }

    @Says("any other one whose COAT has a HOLE above 0, falls into its LINING, if THE DRAW")
    static void promise16HoleOfNone() {
        for (int remains = 0; remains < 4; remains++) {
            CoatPockets x = Due.of("0h3,0", 0, 0, 2);
            x.put(0, 1);
            x.put(1, 1);
            x.seed(SEEDS[remains]);
            Due.due("bell()", x.bell(), 0);
            Due.places("without a hole", x, 11, 11);
            Due.due("the draw is left", x.seed(1), SEEDS[remains]);
        }
    }

    @Says("as a remainder by 4, is below the HOLE.")
    static void promise16BelowTheHole() {
        for (int hole = 1; hole <= 3; hole++) {
            for (int remains = 0; remains < 4; remains++) {
                CoatPockets x = Due.of("0h" + hole, 0, 0);
                x.put(0, 0);
                x.seed(SEEDS[remains]);
                Due.due("hole " + hole + ", remainder " + remains, x.bell(), remains < hole ? 1 : 0);
                Due.due("where(0)", x.where(0), remains < hole ? 20 : 10);
            }
        }
    }

    @Says({"THE DRAW (a number of 31 bits, 1 at first, that becomes, for each such THING,",
        "the lowest 31 bits of itself times 1103515245 and 12345 more)"})
    static void promise16DrawsOneBehindTheOther() {
        CoatPockets x = Due.of("0h3", 0, 0, 0, 2, 0);
        for (int t = 0; t < 4; t++) {
            x.put(t, 0);
        }
        // 1 at first: 1103527590, 377401575, 662824084, 1147902781 come, of which 2, 2, 1, 3 remain.
        Due.due("bell()", x.bell(), 3);
        Due.places("behind it", x, 20, 20, 20, 10);
        Due.due("the draw", x.seed(1), 1147902781);
    }

    @Says("the lowest 31 bits of itself times 1103515245 and 12345 more)")
    static void promise16DrawWrapsAround() {
        int[][] next = {{Integer.MAX_VALUE, 1043980748}, {1073741824, 1073754169}, {65536, 1315778617}, {0, 12345}, {2, 59559187}};
        for (int[] one : next) {
            CoatPockets x = Due.of("0h1", 0, 0);
            x.put(0, 0);
            x.seed(one[0]);
            Due.due("bell() behind seed " + one[0], x.bell(), one[1] / 65536 % 4 < 1 ? 1 : 0);
            Due.due("the draw behind seed " + one[0], x.seed(1), one[1]);
        }
    }

    @Says("by 65536 (cut)")
    static void promise16DrawBelow65536() {
        CoatPockets x = Due.of("0h1", 0, 0);
        x.put(0, 0);
        x.seed(0);
        Due.due("12345 by 65536 is 0", x.bell(), 1);
    }

    @Says({"by 65536 (cut)", "as a remainder by 4"})
    static void promise16DrawsAtTheirEdges() {
        // A seed, the draw that comes behind it, and what remains of that.
        int[][] edges = {
            {2088216195, 0, 0}, {2032319262, 65535, 0}, {1742513795, 65536, 1}, {1686616862, 131071, 1},
            {1396811395, 131072, 2}, {1340914462, 196607, 2}, {1051108995, 196608, 3}, {995212062, 262143, 3},
            {705406595, 262144, 0}, {1323542147, 2147221504, 0}, {576240414, 2147418111, 2}, {286434947, 2147418112, 3},
            {230538014, 2147483647, 3}
        };
        for (int[] edge : edges) {
            for (int hole = 1; hole <= 3; hole++) {
                CoatPockets x = Due.of("0h" + hole, 0, 0);
                x.put(0, 0);
                x.seed(edge[0]);
                Due.due("draw " + edge[1] + ", hole " + hole, x.bell(), edge[2] < hole ? 1 : 0);
                Due.due("the draw", x.seed(1), edge[1]);
            }
        }
    }

    @Says("A BELL: first by THINGS' numbers, each that was in a POCKET ahead of THE BELL:")
    static void promise16DrawsByThingsNumbers() {
        CoatPockets x = Due.of("0h2,0h2", 0, 0, 0, 0);
        x.put(1, 0);
        x.put(0, 1);
        x.seed(4);
        // 1 and 2 remain: thing 0 falls, though its coat is the second and it was put later.
        Due.due("bell()", x.bell(), 1);
        Due.places("behind it", x, 21, 10, 0);
    }

    @Says("for each such THING")
    static void promise16NoDrawForAnyOther() {
        CoatPockets x = Due.of("0h3,0", 0, 1, 3, 0, 2, 0);
        Due.due("a day", Due.day(x, "p0>0;p1>0;p2>1;p3>1"), 4);
        x.seed(77);
        Due.due("sweet, frog, no hole, hands", x.bell(), 0);
        Due.due("the draw is left", x.seed(0), 77);
        Due.day(x, "p4>0;b");
        Due.due("where(4)", x.where(4), 20);
        x.seed(77);
        Due.due("a lining", x.bell(), 0);
        Due.due("the draw is left", x.seed(0), 77);
    }

    @Says({"1 SWEET (in a POCKET it is EATEN at a BELL, by who WEARS the COAT ahead of it)", "a SWEET is EATEN;"})
    static void promise16SweetIsEaten() {
        CoatPockets x = Due.of("07h3,70", 0, 1, 1);
        x.thing(1, 7);
        x.put(0, 0);
        x.put(2, 1);
        x.seed(0);
        Due.due("bell()", x.bell(), 0);
        Due.places("behind it", x, 30, 0, 30);
        Due.due("by who wore it ahead", x.told(0, 2), 0);
        Due.due("by who wore the other", x.told(2, 2), 7);
        Due.due("in hands by nobody", x.told(1, 2), 8);
        x.bell();
        Due.due("a bell later by the same", x.told(0, 2), 0);
    }

    @Says("a FROG is in the POCKET of the next COAT by numbers (behind the last the first one);")
    static void promise16FrogBehindTheLast() {
        for (int coats = 1; coats <= 4; coats++) {
            CoatPockets x = Due.of("0h3,0h3,0h3,0h3".substring(0, coats * 4 - 1), 0, 3);
            x.put(0, 0);
            for (int k = 1; k <= 9; k++) {
                Due.due("bell()", x.bell(), 0);
                Due.due("bell " + k + " of " + coats + " coats", x.where(0), 10 + k % coats);
            }
        }
    }

    @Says("3 FROG (below SWEET: is not EATEN, but hops).")
    static void promise16FrogIsNotEaten() {
        CoatPockets x = Due.of("0,1", 0, 3, 3);
        x.put(0, 0);
        x.bell();
        Due.places("behind a bell", x, 11, 0);
        Due.due("told(0, 2)", x.told(0, 2), 8);
        Due.due("told(0, 1)", x.told(0, 1), 0);
        Due.due("take(0, 1)", x.take(0, 1), 1);
        x.bell();
        Due.places("in hands", x, 1, 0);
    }

    @Says("behind each BELL")
    static void promise16NoteIsReadBehindTheBell() {
        CoatPockets x = Due.of("017,0h3", 0, 2, 2, 2);
        x.put(0, 0);
        x.put(1, 1);
        x.seed(0);
        Due.due("bell()", x.bell(), 1);
        Due.due("by who comes to wear it", x.told(0, 1), 3);
        Due.due("not in a lining", x.told(1, 1), 1);
        Due.due("not in hands", x.told(2, 1), 0);
        x.bell();
        Due.due("by the last of the turn", x.told(0, 1), 131);
        CoatPockets y = Due.of("34h3", 3, 2);
        y.put(0, 0);
        y.seed(0);
        y.bell();
        Due.due("not as it falls", y.told(0, 1), 8);
    }

    @Says("Then each COAT is WORN by the next of its TURN (behind the last the first).")
    static void promise16TurnBehindTheLast() {
        CoatPockets x = Due.of("5,52,521,5217");
        int[] turn = {5, 2, 1, 7};
        for (int k = 1; k <= 13; k++) {
            x.bell();
            for (int c = 0; c < 4; c++) {
                Due.due("of(" + c + ", 0) behind bell " + k, x.of(c, 0), turn[k % (c + 1)]);
            }
        }
    }

    @Says("THE BELLS are counted")
    static void promise16BellsAreCounted() {
        CoatPockets x = Due.of("01");
        for (int k = 1; k <= 250; k++) {
            x.bell();
            Due.due("count(2)", x.count(2), k);
        }
    }

    /** It takes more than 512 calls, behind which all is free; that it is refused there is looked at all the same. */
    @Says({"FULL: 9999 were.", "(9999 at most)"})
    static void promise16FullBehindTheMost() {
        CoatPockets x = Due.of("01,2", 2, 3);
        x.put(0, 1);
        for (int k = 1; k <= 9998; k++) {
            x.bell();
        }
        Due.due("the last one", x.bell(), 0);
        Due.due("count(2)", x.count(2), 9999);
        String was = Due.seen(x);
        Due.due("one more", x.bell(), -3);
        Due.unchanged("one more", x, was);
    }
}
