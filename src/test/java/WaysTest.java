/** Promises 17 to 20: reach, soonest, dealt, wore. */
final class WaysTest {
    public static void main(String[] args) {
        reach();
        thieves();
        holes();
        soonest();
        via();
        dealt();
        wore();
        bad();
        Due.end();
    }

    private static CoatPockets of(String school) {
        CoatPockets x = new CoatPockets();
        Due.school(x, school);
        return x;
    }

    private static void reach() {
        CoatPockets x = of("01,12,23,34");
        int[] want = {1, 3, 3, 7, 7, 15, 15, 31, 31};
        for (int n = 0; n < want.length; n++) {
            Due.due("reach(0, " + n + ", 0)", x.reach(0, n, 0), want[n]);
        }
        Due.due("reach(4, 24, 0)", x.reach(4, 24, 0), 31);
        Due.due("reach(7, 24, 0)", x.reach(7, 24, 0), 128);
        x.bell();
        Due.due("a bell later", x.reach(0, 1, 0), 1);
        Due.due("two bells later", x.reach(0, 2, 0), 3);
        Due.due("it changes nothing", x.of(0, 0), 1);
        // 0 wears both coats: what is taken from the one is put into the other, between the same bells.
        CoatPockets y = of("10,02");
        Due.due("past one boy at one bell", y.reach(1, 2, 0), 3);
        CoatPockets z = of("01,21,3");
        Due.due("two coats of one boy", z.reach(0, 2, 0), 7);
    }

    private static void thieves() {
        CoatPockets x = of("012");
        Due.due("past none", x.reach(0, 2, 0), 7);
        Due.due("past 1", x.reach(0, 2, 2), 1);
        Due.due("past 2", x.reach(0, 2, 4), 3);
        Due.due("himself counts for nothing", x.reach(0, 2, 1), 7);
        Due.due("himself and 1", x.reach(0, 2, 3), 1);
        Due.due("all", x.reach(0, 24, 255), 1);
        Due.due("soonest past 1", x.soonest(0, 2, 2, 0), -4);
        Due.due("to a thief", x.soonest(0, 1, 2, 0), -4);
        Due.due("from a thief", x.soonest(0, 1, 1, 0), 1);
        Due.due("from a thief to himself", x.soonest(0, 0, 1, 0), 0);
        // A thief behind who it is for is no hindrance.
        CoatPockets y = of("0213");
        Due.due("reach(0, 24, 2)", y.reach(0, 24, 2), 5);
        Due.due("reach(3, 24, 2)", y.reach(3, 24, 2), 13);
    }

    private static void holes() {
        CoatPockets x = of("01h1,02");
        Due.due("none by a hole", x.reach(0, 24, 0), 5);
        x.hole(0, 0);
        Due.due("the hole is mended", x.reach(0, 24, 0), 7);
        x.hole(0, 3);
        x.hole(1, 3);
        Due.due("holes alone", x.reach(0, 24, 0), 1);
        Due.due("soonest(0, 1, 0, 0)", x.soonest(0, 1, 0, 0), -4);
    }

    private static void soonest() {
        CoatPockets x = of("0123,4");
        int[] want = {0, 1, 2, 3};
        for (int to = 0; to < 4; to++) {
            Due.due("soonest(0, " + to + ", 0, 0)", x.soonest(0, to, 0, 0), want[to]);
        }
        Due.due("soonest(3, 0, 0, 0)", x.soonest(3, 0, 0, 0), 4);
        Due.due("soonest(2, 1, 0, 0)", x.soonest(2, 1, 0, 0), 5);
        Due.due("to one of another coat", x.soonest(0, 4, 0, 0), -4);
        Due.due("to one of none", x.soonest(0, 7, 0, 0), -4);
        Due.due("from one of none to himself", x.soonest(7, 7, 0, 0), 0);
        CoatPockets alone = of("0,1");
        Due.due("coats of one", alone.soonest(0, 1, 0, 0), -4);
        CoatPockets late = of("61,2534,5312,740");
        Due.due("a long way", late.soonest(0, 6, 0, 0), 16);
        Due.due("a bell less", late.reach(0, 15, 0) >> 6 & 1, 0);
        Due.due("as many bells", late.reach(0, 16, 0) >> 6 & 1, 1);
    }

    private static void via() {
        CoatPockets x = of("01,01,01h2,12");
        Due.due("by both without a hole", x.soonest(0, 1, 0, 1), 3);
        Due.due("by the fourth alone", x.soonest(1, 2, 0, 1), 8);
        Due.due("to himself", x.soonest(1, 1, 0, 1), 0);
        Due.due("to himself, who wears some", x.soonest(0, 0, 0, 1), 0);
        Due.due("by none", x.soonest(0, 3, 0, 1), -4);
        // 2 wears the second coat too, but in its pocket it can't be.
        CoatPockets y = of("02,32");
        Due.due("by the first alone", y.soonest(0, 2, 0, 1), 1);
        CoatPockets z = of("02,02,30");
        z.bell();
        Due.due("soonest(0, 2, 0, 0)", z.soonest(0, 2, 0, 0), 2);
        Due.due("soonest(0, 2, 0, 1)", z.soonest(0, 2, 0, 1), 3);
    }

    private static void dealt() {
        CoatPockets x = of("0123");
        x.bell();
        order(x, 0, 0, 3, 1, 0, 3, 1, 2);
        order(x, 0, 3, 0, 1, 3, 0, 1, 2);
        order(x, 0, 2, 2, 0, 0, 1, 2, 3);
        order(x, 0, 6, 6, 0, 0, 1, 2, 3);
        order(x, 0, 0, 6, -4, -4, -4, -4, -4);
        Due.due("it changes nothing", x.of(0, 5) * 8 + x.of(0, 0), 1);
        CoatPockets y = of("543,35,14");
        order(y, 0, 5, 3, 1, 5, 3, 4, -4);
        order(y, 1, 5, 3, 1, 5, 3, -4, -4);
        order(y, 2, 5, 1, 2, 1, 4, -4, -4);
        CoatPockets down = of("10,7632,5210");
        order(down, 0, 5, 5, 0, 0, 1, -4, -4);
        order(down, 1, 5, 5, 0, 2, 3, 6, 7);
        order(down, 2, 3, 3, 0, 0, 1, 2, 5);
        CoatPockets one = of("4");
        order(one, 0, 4, 4, 0, 4, -4, -4, -4);
        CoatPockets torn = of("01h1");
        order(torn, 0, 0, 1, -4, -4, -4, -4, -4);
    }

    private static void order(CoatPockets x, int coat, int from, int to, int... want) {
        for (int i = -1; i < 4; i++) {
            Due.due("dealt(" + coat + ", " + from + ", " + to + ", " + i + ")", x.dealt(coat, from, to, i), want[i + 1]);
        }
    }

    private static void wore() {
        CoatPockets x = of("0123,45,6");
        int[] want = {1, 9, 13, 15, 15};
        for (int n = 0; n < want.length; n++) {
            Due.due("wore(0, " + n + ")", x.wore(0, n), want[n]);
        }
        Due.due("wore(0, 24)", x.wore(0, 24), 15);
        Due.due("wore(2, 24)", x.wore(2, 24), 64);
        x.bell();
        Due.due("wore(0, 1) a bell later", x.wore(0, 1), 3);
        Due.due("wore(0, 2) a bell later", x.wore(0, 2), 11);
        Due.due("wore(1, 0) a bell later", x.wore(1, 0), 32);
        Due.due("wore(1, 1) a bell later", x.wore(1, 1), 48);
    }

    private static void bad() {
        CoatPockets x = of("01,12");
        int[] numbers = {Integer.MIN_VALUE, -1, 8, Integer.MAX_VALUE};
        for (int v : numbers) {
            Due.due("reach(" + v + ", 1, 0)", x.reach(v, 1, 0), -1);
            Due.due("soonest(" + v + ", 1, 0, 0)", x.soonest(v, 1, 0, 0), -1);
            Due.due("soonest(1, " + v + ", 0, 0)", x.soonest(1, v, 0, 0), -1);
            Due.due("soonest(0, 1, 0, " + v + ")", x.soonest(0, 1, 0, v), -1);
            Due.due("dealt(" + v + ", 0, 1, 0)", x.dealt(v, 0, 1, 0), -1);
            Due.due("dealt(0, " + v + ", 1, 0)", x.dealt(0, v, 1, 0), -1);
            Due.due("dealt(0, 0, " + v + ", 0)", x.dealt(0, 0, v, 0), -1);
            Due.due("wore(" + v + ", 0)", x.wore(v, 0), -1);
        }
        int[] bells = {Integer.MIN_VALUE, -1, 25, Integer.MAX_VALUE};
        for (int n : bells) {
            Due.due("reach(0, " + n + ", 0)", x.reach(0, n, 0), -1);
            Due.due("wore(0, " + n + ")", x.wore(0, n), -1);
        }
        int[] sets = {Integer.MIN_VALUE, -1, 256, Integer.MAX_VALUE};
        for (int set : sets) {
            Due.due("reach(0, 1, " + set + ")", x.reach(0, 1, set), -1);
            Due.due("soonest(0, 1, " + set + ", 0)", x.soonest(0, 1, set, 0), -1);
        }
        int[] places = {Integer.MIN_VALUE, -2, 4, Integer.MAX_VALUE};
        for (int i : places) {
            Due.due("dealt(0, 0, 1, " + i + ")", x.dealt(0, 0, 1, i), -1);
            Due.due("dealt to none, bad i " + i, x.dealt(0, 0, 7, i), -1);
        }
        Due.due("soonest(0, 1, 0, 2)", x.soonest(0, 1, 0, 2), -1);
        Due.due("dealt(2, 0, 1, 0)", x.dealt(2, 0, 1, 0), -1);
        Due.due("wore(2, 0)", x.wore(2, 0), -1);
    }
}
