/** Promise 4: where. */
final class Promise04Test {
    public static void main(String[] args) throws ReflectiveOperationException {
        Due.run(Promise04Test.class);
    }

    @Says({"Where a THING is: a BOY 0 .. 7", "each is in the HANDS of a BOY"})
    static void promise4FirstAndLastBoy() {
        CoatPockets x = new CoatPockets();
        for (int boy = 0; boy < 8; boy++) {
            x.thing(0, boy);
        }
        Due.places("in hands", x, 0, 1, 2, 3, 4, 5, 6, 7);
    }

    @Says({"10 and a COAT (POCKET)", "in the POCKET of a COAT"})
    static void promise4FirstAndLastPocket() {
        CoatPockets x = Due.of("0,0,0,0", 0, 0, 0, 0, 0);
        for (int t = 0; t < 4; t++) {
            x.put(t, 3 - t);
        }
        Due.places("in pockets", x, 13, 12, 11, 10);
    }

    @Says({"20 and a COAT (LINING)", "in its LINING, or EATEN."})
    static void promise4FirstAndLastLining() {
        for (int c = 0; c < 4; c++) {
            CoatPockets x = Due.of("0h3,0h3,0h3,0h3", 0, 0);
            x.put(0, c);
            x.seed(0);
            Due.due("bell()", x.bell(), 1);
            Due.due("where(0) in a lining", x.where(0), 20 + c);
        }
    }

    @Says({"30 (EATEN)", "in its LINING, or EATEN."})
    static void promise4Eaten() {
        for (int c = 0; c < 4; c++) {
            CoatPockets x = Due.of("0,1,2,3", c, 1);
            x.put(0, c);
            x.bell();
            Due.due("where(0) of an eaten one", x.where(0), 30);
        }
    }

    @Says({"30 (EATEN). BAD.", "BAD -1 (a number is not as told, or names nothing)"})
    static void promise4BadNoSuchThing() {
        CoatPockets x = new CoatPockets();
        int[] none = {-1, 8, 9, Integer.MIN_VALUE, Integer.MAX_VALUE};
        for (int t = 0; t < 8; t++) {
            for (int other : none) {
                Due.due("where(" + other + ")", x.where(other), -1);
            }
            Due.due("where(" + t + ") of " + t, x.where(t), -1);
            x.thing(0, 0);
            Due.due("where(" + t + ") of one more", x.where(t), 0);
        }
        Due.due("where(8) of eight", x.where(8), -1);
    }
}
