/** Promise 7: hole. */
final class Promise07Test {
    public static void main(String[] args) throws ReflectiveOperationException {
        Due.run(Promise07Test.class);
    }

    @Says({"HOLE of a COAT: what it was.", "a HOLE (0 .. 3)."})
    static void promise7LeastAndMost() {
        CoatPockets x = Due.of("0h2,1,2,3h1");
        Due.due("hole(0, 3)", x.hole(0, 3), 2);
        Due.due("hole(0, 0)", x.hole(0, 0), 3);
        Due.due("hole(0, 0) again", x.hole(0, 0), 0);
        Due.due("hole(3, 3)", x.hole(3, 3), 1);
        Due.due("of(3, 2)", x.of(3, 2), 3);
        Due.due("of(1, 2)", x.of(1, 2), 0);
        Due.due("of(2, 2)", x.of(2, 2), 0);
    }

    @Says("HOLE of a COAT: what it was. BAD.")
    static void promise7BadHole() {
        CoatPockets x = Due.of("0h2");
        int[] none = {-1, 4, Integer.MIN_VALUE, Integer.MAX_VALUE};
        for (int v : none) {
            Due.due("hole(0, " + v + ")", x.hole(0, v), -1);
            Due.due("it stays", x.of(0, 2), 2);
        }
    }

    @Says("HOLE of a COAT: what it was. BAD.")
    static void promise7BadNoSuchCoat() {
        CoatPockets x = Due.of("0h2,1h1");
        String was = Due.seen(x);
        int[] none = {-1, 2, 3, 4, Integer.MIN_VALUE, Integer.MAX_VALUE};
        for (int c : none) {
            Due.due("hole(" + c + ", 0)", x.hole(c, 0), -1);
        }
        Due.unchanged("no such coats", x, was);
        Due.due("coat(2, 1, 0)", x.coat(2, 1, 3), 2);
        Due.due("hole(2, 0)", x.hole(2, 0), 3);
    }
}
