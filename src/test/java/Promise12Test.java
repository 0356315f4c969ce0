/** Promise 12: put. */
final class Promise12Test {
    public static void main(String[] args) throws ReflectiveOperationException {
        Due.run(Promise12Test.class);
    }

    @Says({"TO PUT: who did.", "TO PUT: who WEARS a COAT and has a THING in HANDS has it in its POCKET then."})
    static void promise12FirstAndLastOfAll() {
        CoatPockets x = Due.of("0,1,2,7");
        for (int t = 0; t < 8; t++) {
            x.thing(0, t == 0 ? 0 : 7);
        }
        Due.due("put(0, 0)", x.put(0, 0), 0);
        Due.due("where(0)", x.where(0), 10);
        Due.due("put(7, 3)", x.put(7, 3), 7);
        Due.due("where(7)", x.where(7), 13);
        Due.due("where(6)", x.where(6), 7);
    }

    @Says("A BOY can WEAR more than one.")
    static void promise12ByWhoWearsTwo() {
        CoatPockets x = Due.of("0,0h3", 0, 0, 0);
        Due.due("put(0, 1)", x.put(0, 1), 0);
        Due.due("put(1, 0)", x.put(1, 0), 0);
        Due.places("in pockets", x, 11, 10);
    }

    @Says("TO PUT: who did. BAD;")
    static void promise12BadNoSuchThing() {
        CoatPockets x = Due.of("0,1", 0, 0, 0);
        int[] none = {-1, 2, 7, 8, Integer.MIN_VALUE, Integer.MAX_VALUE};
        for (int t : none) {
            Due.due("put(" + t + ", 0)", x.put(t, 0), -1);
        }
        Due.places("behind", x, 0, 0);
    }

    @Says("TO PUT: who did. BAD;")
    static void promise12BadNoSuchCoat() {
        CoatPockets x = Due.of("0,1", 0, 0, 0);
        int[] none = {-1, 2, 3, 4, Integer.MIN_VALUE, Integer.MAX_VALUE};
        for (int c : none) {
            Due.due("put(0, " + c + ")", x.put(0, c), -1);
        }
        Due.places("behind", x, 0, 0);
        Due.due("no coats at all", Due.of("", 0, 0).put(0, 0), -1);
    }

    @Says("NOT: it is not in the HANDS of who WEARS it.")
    static void promise12NotInHisHands() {
        CoatPockets x = Due.of("01,1", 0, 0);
        Due.due("another wears it", x.put(0, 1), -2);
        x.bell();
        Due.due("he wears it no more", x.put(0, 0), -2);
        x.bell();
        Due.due("he wears it again", x.put(0, 0), 0);
        Due.due("who wears none", Due.of("0", 7, 0).put(0, 0), -2);
    }

    @Says("NOT: it is not in the HANDS of who WEARS it.")
    static void promise12NotInHandsAtAll() {
        CoatPockets x = Due.of("0h3,0", 0, 0, 1, 0);
        x.put(0, 0);
        x.put(1, 1);
        Due.due("in this pocket", x.put(0, 0), -2);
        Due.due("in another pocket", x.put(0, 1), -2);
        x.seed(0);
        x.bell();
        Due.places("behind a bell", x, 20, 30, 0);
        Due.due("in its lining", x.put(0, 0), -2);
        Due.due("in another lining", x.put(0, 1), -2);
        Due.due("eaten", x.put(1, 0), -2);
        Due.places("behind refused ones", x, 20, 30, 0);
    }

    @Says({"BAD; NOT:", "NOT -2 (as told)", "What is refused changes nothing, but as told."})
    static void promise12RefusedChangesNothing() {
        CoatPockets x = Due.of("0,1", 0, 2, 0);
        String was = Due.seen(x);
        Due.due("not his", x.put(0, 1), -2);
        Due.due("no such coat, not his", x.put(0, 2), -1);
        Due.due("no such thing", x.put(2, 1), -1);
        Due.unchanged("refused ones", x, was);
    }

    @Says("is READ, in a POCKET, by who WEARS the COAT: as it is put there")
    static void promise12NoteIsReadAsItIsPut() {
        CoatPockets x = Due.of("0,70");
        for (int kind = 0; kind < 4; kind++) {
            x.thing(kind, 7);
        }
        for (int t = 0; t < 4; t++) {
            Due.due("told(" + t + ", 1) ahead", x.told(t, 1), 0);
            Due.due("put(" + t + ", 1)", x.put(t, 1), 7);
            Due.due("told(" + t + ", 1)", x.told(t, 1), t == 2 ? 128 : 0);
        }
    }
}
