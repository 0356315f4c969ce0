/** Promise 20: wore. */
final class Promise20Test {
    public static void main(String[] args) throws ReflectiveOperationException {
        Due.run(Promise20Test.class);
    }

    private static void wore(CoatPockets x, int coat, int n, int want) {
        Due.due("wore(" + coat + ", " + n + ")", x.wore(coat, n), want);
    }

    @Says("WORE: who WEARS a COAT, and who by its TURN would have worn it")
    static void promise20NoBells() {
        CoatPockets x = Due.of("0123,7654");
        int[] first = {0, 1, 2, 3};
        int[] second = {7, 6, 5, 4};
        for (int k = 0; k < 9; k++) {
            wore(x, 0, 0, 1 << first[k % 4]);
            wore(x, 1, 0, 1 << second[k % 4]);
            x.bell();
        }
    }

    @Says("ahead of the last 1, 2 .. n BELLS (n 0 .. 24).")
    static void promise20BehindTheFirstTheLast() {
        CoatPockets x = Due.of("0123,45,6,701");
        int[] want = {1, 9, 13, 15, 15, 15};
        for (int n = 0; n < want.length; n++) {
            wore(x, 0, n, want[n]);
        }
        wore(x, 1, 0, 16);
        wore(x, 1, 1, 48);
        wore(x, 1, 2, 48);
        wore(x, 2, 0, 64);
        wore(x, 2, 1, 64);
        wore(x, 3, 1, 130);
        wore(x, 3, 2, 131);
    }

    @Says("ahead of the last 1, 2 .. n BELLS (n 0 .. 24).")
    static void promise20BellsLater() {
        CoatPockets x = Due.of("0123");
        x.bell();
        wore(x, 0, 1, 3);
        wore(x, 0, 2, 11);
        x.bell();
        wore(x, 0, 1, 6);
        wore(x, 0, 2, 7);
        wore(x, 0, 3, 15);
        x.bell();
        wore(x, 0, 1, 12);
        wore(x, 0, 2, 14);
    }

    @Says("(n 0 .. 24).")
    static void promise20MostBells() {
        CoatPockets x = Due.of("0123,45,6,701");
        int[] all = {15, 48, 64, 131};
        for (int c = 0; c < 4; c++) {
            wore(x, c, 23, all[c]);
            wore(x, c, 24, all[c]);
        }
    }

    @Says("WORE. BAD.")
    static void promise20BadBells() {
        CoatPockets x = Due.of("01");
        int[] none = {-1, 25, 26, Integer.MIN_VALUE, Integer.MAX_VALUE};
        for (int n : none) {
            wore(x, 0, n, -1);
        }
    }

    @Says("WORE. BAD.")
    static void promise20BadNoSuchCoat() {
        CoatPockets x = Due.of("01,2");
        int[] none = {-1, 2, 3, 4, Integer.MIN_VALUE, Integer.MAX_VALUE};
        for (int c : none) {
            wore(x, c, 0, -1);
            wore(x, c, 24, -1);
        }
        wore(new CoatPockets(), 0, 0, -1);
    }

    @Says("who by its TURN would have worn it")
    static void promise20ChangesNothing() {
        CoatPockets x = Due.of("0123,45");
        x.bell();
        String was = Due.seen(x);
        x.wore(0, 24);
        x.wore(1, 3);
        x.wore(1, 25);
        Due.unchanged("wore", x, was);
    }
}
