/** Promise 24: seed. */
final class Promise24Test {
    public static void main(String[] args) throws ReflectiveOperationException {
        Due.run(Promise24Test.class);
    }

    @Says({"THE DRAW becomes v: what it was.", "THE DRAW (a number of 31 bits, 1 at first"})
    static void promise24LeastAndMost() {
        CoatPockets x = new CoatPockets();
        Due.due("seed(0)", x.seed(0), 1);
        Due.due("seed(most)", x.seed(Integer.MAX_VALUE), 0);
        Due.due("seed(1)", x.seed(1), Integer.MAX_VALUE);
        Due.due("seed(1) again", x.seed(1), 1);
    }

    @Says("BAD: below 0.")
    static void promise24BadBelowZero() {
        CoatPockets x = new CoatPockets();
        x.seed(9);
        Due.due("seed(-1)", x.seed(-1), -1);
        Due.due("seed(-2)", x.seed(-2), -1);
        Due.due("seed(least)", x.seed(Integer.MIN_VALUE), -1);
        Due.due("seed(0): it stayed", x.seed(0), 9);
    }

    @Says("THE DRAW becomes v: what it was.")
    static void promise24WhatABellMadeOfIt() {
        CoatPockets x = Due.of("0h1", 0, 0);
        x.put(0, 0);
        x.seed(Integer.MAX_VALUE);
        Due.due("bell()", x.bell(), 0);
        Due.due("seed(0)", x.seed(0), 1043980748);
        Due.due("bell()", x.bell(), 1);
        Due.due("seed(0)", x.seed(0), 12345);
    }
}
