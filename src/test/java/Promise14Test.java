/** Promise 14: search. */
final class Promise14Test {
    public static void main(String[] args) throws ReflectiveOperationException {
        Due.run(Promise14Test.class);
    }

    /** A coat of boys 0 and 7 with so many things of a kind in its lining, as 7 wears it. */
    private static CoatPockets fallen(int kind, int many) {
        CoatPockets x = Due.of("07h3,0");
        for (int t = 0; t < many; t++) {
            x.thing(kind, 0);
            x.put(t, 0);
        }
        for (int k = 0; k < 9; k++) {
            x.seed(0);
            x.bell();
        }
        Due.due("count(4)", x.count(4), many);
        return x;
    }

    @Says("TO SEARCH: how many THINGS were in the LINING.")
    static void promise14EmptyLining() {
        CoatPockets x = Due.of("0h3,0", 0, 0, 0);
        Due.due("nothing at all", x.search(0), 0);
        x.put(0, 0);
        Due.due("what is in the pocket does not count", x.search(0), 0);
        Due.places("behind", x, 10, 0);
    }

    @Says({"how many THINGS were in the LINING.", "TO SEARCH: all in the LINING of a COAT is in its POCKET then."})
    static void promise14OneAndEight() {
        for (int many = 1; many <= 8; many += 7) {
            CoatPockets x = fallen(0, many);
            Due.due("search(0) of " + many, x.search(0), many);
            Due.due("of(0, 3)", x.of(0, 3), (1 << many) - 1);
            Due.due("of(0, 4)", x.of(0, 4), 0);
            Due.due("search(0) again", x.search(0), 0);
        }
    }

    @Says("all in the LINING of a COAT")
    static void promise14OtherLiningsStay() {
        CoatPockets x = Due.of("0h3,0,0,0h3", 0, 0, 0);
        x.put(0, 0);
        x.put(1, 3);
        x.seed(0);
        Due.due("bell()", x.bell(), 2);
        Due.places("in linings", x, 20, 23);
        Due.due("search(1)", x.search(1), 0);
        Due.due("search(3)", x.search(3), 1);
        Due.places("behind the last coat's", x, 20, 13);
        Due.due("search(0)", x.search(0), 1);
        Due.places("behind the first coat's", x, 10, 13);
    }

    @Says("in the POCKET")
    static void promise14OfACoatWithoutAHoleNow() {
        CoatPockets x = fallen(0, 1);
        x.hole(0, 0);
        x.bell();
        Due.due("where(0)", x.where(0), 20);
        Due.due("search(0)", x.search(0), 1);
        Due.due("where(0)", x.where(0), 10);
    }

    @Says("as it comes there")
    static void promise14NoteIsReadAsItComesThere() {
        CoatPockets x = fallen(2, 2);
        Due.due("told(0, 1) in a lining", x.told(0, 1), 1);
        Due.due("search(0)", x.search(0), 2);
        Due.due("told(0, 1)", x.told(0, 1), 129);
        Due.due("told(1, 1)", x.told(1, 1), 129);
        CoatPockets y = fallen(0, 1);
        y.search(0);
        Due.due("a knife is not read", y.told(0, 1), 0);
    }

    @Says("how many THINGS were in the LINING. BAD.")
    static void promise14BadNoSuchCoat() {
        CoatPockets x = fallen(0, 1);
        String was = Due.seen(x);
        int[] none = {-1, 2, 3, 4, Integer.MIN_VALUE, Integer.MAX_VALUE};
        for (int c : none) {
            Due.due("search(" + c + ")", x.search(c), -1);
        }
        Due.unchanged("bad ones", x, was);
        Due.due("no coats at all", new CoatPockets().search(0), -1);
    }
}
