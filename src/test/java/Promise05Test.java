/** Promise 5: told. */
final class Promise05Test {
    public static void main(String[] args) throws ReflectiveOperationException {
        Due.run(Promise05Test.class);
    }

    @Says("Of a THING: 0 its KIND")
    static void promise5Kind() {
        CoatPockets x = Due.of("0", 0, 3, 2, 1, 0, 3, 2, 1, 0);
        for (int t = 0; t < 8; t++) {
            Due.due("told(" + t + ", 0)", x.told(t, 0), 3 - t % 4);
        }
    }

    @Says("1 by whom it was READ (a set)")
    static void promise5ReadByNobody() {
        CoatPockets x = Due.of("0", 0, 0, 1, 2, 3);
        for (int t = 0; t < 4; t++) {
            Due.due("told(" + t + ", 1)", x.told(t, 1), 0);
        }
    }

    @Says({"1 by whom it was READ (a set)", "Sets are bits."})
    static void promise5ReadByTheFirstAndTheLastBoy() {
        CoatPockets x = Due.of("07", 0, 2);
        x.put(0, 0);
        Due.due("told(0, 1) of boy 0", x.told(0, 1), 1);
        x.bell();
        Due.due("told(0, 1) of boys 0 and 7", x.told(0, 1), 129);
    }

    @Says("1 by whom it was READ (a set)")
    static void promise5ReadByAll() {
        CoatPockets x = Due.of("0123,4567", 0, 2);
        x.put(0, 0);
        for (int k = 0; k < 3; k++) {
            x.bell();
        }
        Due.due("take(0, 0)", x.take(0, 0), 3);
        x.bell();
        Due.school(x, "3,4567");
        Due.due("give(0, 4)", x.give(0, 4), 3);
        x.put(0, 1);
        for (int k = 0; k < 3; k++) {
            x.bell();
        }
        Due.due("told(0, 1)", x.told(0, 1), 255);
    }

    @Says("2 by whom it was EATEN (8: nobody)")
    static void promise5EatenByNobody() {
        CoatPockets x = Due.of("0h3", 0, 0, 1, 2, 3);
        for (int t = 0; t < 4; t++) {
            Due.due("told(" + t + ", 2)", x.told(t, 2), 8);
        }
        x.put(0, 0);
        x.put(2, 0);
        x.put(3, 0);
        x.seed(0);
        Due.due("bell()", x.bell(), 2);
        for (int t = 0; t < 4; t++) {
            Due.due("told(" + t + ", 2) behind a bell", x.told(t, 2), 8);
        }
    }

    @Says("2 by whom it was EATEN (8: nobody)")
    static void promise5EatenByTheFirstAndTheLastBoy() {
        CoatPockets x = Due.of("01,70");
        x.thing(1, 0);
        x.thing(1, 7);
        x.put(0, 0);
        x.put(1, 1);
        x.bell();
        Due.due("told(0, 2)", x.told(0, 2), 0);
        Due.due("told(1, 2)", x.told(1, 2), 7);
    }

    @Says("(8: nobody). BAD.")
    static void promise5BadNoSuchThing() {
        CoatPockets x = Due.of("0", 0, 2, 2);
        int[] none = {-1, 2, 8, Integer.MIN_VALUE, Integer.MAX_VALUE};
        for (int t : none) {
            for (int what = 0; what < 3; what++) {
                Due.due("told(" + t + ", " + what + ")", x.told(t, what), -1);
            }
        }
        Due.due("told(1, 0)", x.told(1, 0), 2);
    }

    @Says("(8: nobody). BAD.")
    static void promise5BadWhat() {
        CoatPockets x = Due.of("0", 0, 2);
        int[] none = {-1, 3, Integer.MIN_VALUE, Integer.MAX_VALUE};
        for (int what : none) {
            Due.due("told(0, " + what + ")", x.told(0, what), -1);
        }
    }
}
