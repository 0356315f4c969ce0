/** Promise 13: take. */
final class Promise13Test {
    public static void main(String[] args) throws ReflectiveOperationException {
        Due.run(Promise13Test.class);
    }

    @Says({"TO TAKE: who did.", "TO TAKE: who WEARS a COAT has a THING of its POCKET in HANDS then."})
    static void promise13ByWhoWearsItNow() {
        CoatPockets x = Due.of("07", 0, 0, 0);
        x.put(0, 0);
        x.put(1, 0);
        Due.due("take(0, 0)", x.take(0, 0), 0);
        Due.due("where(0)", x.where(0), 0);
        x.bell();
        Due.due("take(1, 0) a bell later", x.take(1, 0), 7);
        Due.places("in hands", x, 0, 7);
    }

    @Says("TO TAKE: who WEARS a COAT has a THING of its POCKET in HANDS then.")
    static void promise13LastOfAll() {
        CoatPockets x = Due.of("0,1,2,7", 7, 0, 0, 0, 0, 0, 0, 0, 1);
        x.put(7, 3);
        Due.due("take(7, 3)", x.take(7, 3), 7);
        Due.due("where(7)", x.where(7), 7);
    }

    @Says("TO TAKE: who did. BAD;")
    static void promise13BadNoSuchThing() {
        CoatPockets x = Due.of("0", 0, 0, 0);
        x.put(0, 0);
        int[] none = {-1, 2, 7, 8, Integer.MIN_VALUE, Integer.MAX_VALUE};
        for (int t : none) {
            Due.due("take(" + t + ", 0)", x.take(t, 0), -1);
        }
        Due.places("behind", x, 10, 0);
    }

    @Says("TO TAKE: who did. BAD;")
    static void promise13BadNoSuchCoat() {
        CoatPockets x = Due.of("0,1", 0, 0);
        x.put(0, 0);
        int[] none = {-1, 2, 3, 4, Integer.MIN_VALUE, Integer.MAX_VALUE};
        for (int c : none) {
            Due.due("take(0, " + c + ")", x.take(0, c), -1);
        }
        Due.places("behind", x, 10);
        Due.due("no coats at all", Due.of("", 0, 0).take(0, 0), -1);
    }

    @Says("NOT: it is not in that POCKET.")
    static void promise13NotInThatPocket() {
        CoatPockets x = Due.of("0h3,0,1", 0, 0, 1, 0, 0);
        Due.due("in hands", x.take(0, 0), -2);
        Due.due("in hands of one who wears another", x.take(0, 2), -2);
        x.put(0, 0);
        x.put(1, 1);
        x.put(2, 1);
        Due.due("in another pocket", x.take(0, 1), -2);
        Due.due("in another pocket of the same boy", x.take(2, 0), -2);
        x.seed(0);
        x.bell();
        Due.places("behind a bell", x, 20, 30, 11, 0);
        Due.due("in its lining", x.take(0, 0), -2);
        Due.due("eaten", x.take(1, 1), -2);
        Due.due("of another coat", x.take(1, 0), -2);
        Due.places("behind refused ones", x, 20, 30, 11, 0);
    }

    @Says({"BAD; NOT:", "What is refused changes nothing, but as told."})
    static void promise13RefusedChangesNothing() {
        CoatPockets x = Due.of("01,12", 0, 2, 0);
        x.put(0, 0);
        x.bell();
        String was = Due.seen(x);
        Due.due("of another coat", x.take(0, 1), -2);
        Due.due("in hands", x.take(1, 0), -2);
        Due.due("no such coat", x.take(1, 2), -1);
        Due.unchanged("refused ones", x, was);
    }
}
