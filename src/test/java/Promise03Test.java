/** Promise 3: thing. */
final class Promise03Test {
    public static void main(String[] args) throws ReflectiveOperationException {
        Due.run(Promise03Test.class);
    }

    private static CoatPockets eight() {
        CoatPockets x = new CoatPockets();
        for (int t = 0; t < 8; t++) {
            Due.due("thing(" + t % 4 + ", " + (7 - t) + ")", x.thing(t % 4, 7 - t), t);
        }
        return x;
    }

    @Says({"A THING in the HANDS of a BOY: its number.", "THINGS 0 .. 7, as they come, are of a KIND;"})
    static void promise3NumbersAsTheyCome() {
        CoatPockets x = eight();
        Due.places("of eight", x, 7, 6, 5, 4, 3, 2, 1, 0);
        Due.due("count(1)", x.count(1), 8);
    }

    @Says({"KINDS: 0 KNIFE (stays); below it 1 SWEET", "2 NOTE", "3 FROG (below SWEET: is not EATEN, but hops)."})
    static void promise3LeastAndMostKind() {
        CoatPockets x = new CoatPockets();
        for (int kind = 0; kind < 4; kind++) {
            Due.due("thing(" + kind + ", 0)", x.thing(kind, 0), kind);
            Due.due("told(" + kind + ", 0)", x.told(kind, 0), kind);
        }
    }

    @Says({"KINDS: 0 KNIFE (stays); below it 1 SWEET", "2 NOTE", "3 FROG (below SWEET: is not EATEN, but hops).", "BAD;"})
    static void promise3BadKind() {
        CoatPockets x = new CoatPockets();
        int[] none = {-1, 4, Integer.MIN_VALUE, Integer.MAX_VALUE};
        for (int kind : none) {
            Due.due("thing(" + kind + ", 0)", x.thing(kind, 0), -1);
        }
        Due.due("count(1)", x.count(1), 0);
    }

    @Says({"BOYS are 0 .. 7.", "BAD;"})
    static void promise3BadBoy() {
        CoatPockets x = new CoatPockets();
        int[] none = {-1, 8, Integer.MIN_VALUE, Integer.MAX_VALUE};
        for (int boy : none) {
            Due.due("thing(0, " + boy + ")", x.thing(0, boy), -1);
        }
        Due.due("count(1)", x.count(1), 0);
    }

    @Says("A THING in the HANDS of a BOY: its number.")
    static void promise3BoyWhoWearsNoCoat() {
        CoatPockets x = Due.of("1");
        Due.due("thing(0, 0)", x.thing(0, 0), 0);
        Due.due("thing(0, 7)", x.thing(0, 7), 1);
        Due.places("of boys without a coat", x, 0, 7);
    }

    @Says({"FULL: 8.", "What is refused changes nothing, but as told."})
    static void promise3FullAtEight() {
        CoatPockets x = eight();
        String was = Due.seen(x);
        for (int kind = 0; kind < 4; kind++) {
            Due.due("a ninth thing", x.thing(kind, 0), -3);
        }
        Due.unchanged("a ninth thing", x, was);
    }

    @Says("FULL: 8.")
    static void promise3FullOfEatenOnes() {
        CoatPockets x = Due.of("0", 0, 1, 1, 1, 1, 1, 1, 1, 1);
        for (int t = 0; t < 8; t++) {
            x.put(t, 0);
        }
        x.bell();
        Due.due("count(5)", x.count(5), 8);
        Due.due("a ninth thing", x.thing(0, 0), -3);
    }

    @Says("BAD; FULL: 8.")
    static void promise3BadAheadOfFull() {
        CoatPockets x = eight();
        Due.due("a bad kind", x.thing(4, 0), -1);
        Due.due("a bad boy", x.thing(0, 8), -1);
        Due.due("neither", x.thing(3, 7), -3);
    }

    @Says("What is refused changes nothing, but as told.")
    static void promise3BadChangesNothing() {
        CoatPockets x = Due.of("0", 0, 1);
        String was = Due.seen(x);
        x.thing(4, 0);
        x.thing(0, 8);
        x.thing(-1, -1);
        Due.unchanged("bad ones", x, was);
        Due.due("the next one", x.thing(2, 3), 1);
    }
}
