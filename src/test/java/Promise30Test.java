/** Promise 30: drop. */
final class Promise30Test {
    public static void main(String[] args) throws ReflectiveOperationException {
        Due.run(Promise30Test.class);
    }

    @Says("A SHEET holds nothing: how many items it had.")
    static void promise30FewestAndMost() {
        CoatPockets x = new CoatPockets();
        int[] sizes = {0, 1, 23, 24};
        for (int s = 0; s < 4; s++) {
            x.sheet(s, s % 3, sizes[s]);
        }
        for (int s = 0; s < 4; s++) {
            Due.due("drop(" + s + ")", x.drop(s), sizes[s]);
        }
    }

    @Says({"how many items it had. BAD; NULL.", "what the machine finds: NULL -11"})
    static void promise30NullOfNothing() {
        CoatPockets x = new CoatPockets();
        for (int s = 0; s < 4; s++) {
            Due.due("drop(" + s + ") at first", x.drop(s), -11);
            x.sheet(s, 0, 5);
            Due.due("drop(" + s + ")", x.drop(s), 5);
            Due.due("drop(" + s + ") again", x.drop(s), -11);
            Due.due("item behind it", x.item(s, 0, 0, 1), -11);
        }
    }

    @Says("A SHEET holds nothing: how many items it had.")
    static void promise30OthersStay() {
        CoatPockets x = new CoatPockets();
        x.sheet(0, 0, 3);
        x.sheet(1, 0, 4);
        Due.due("drop(0)", x.drop(0), 3);
        Due.due("item of the other", x.item(1, 0, 3, 1), 1);
        Due.due("drop(1)", x.drop(1), 4);
    }

    @Says("how many items it had. BAD; NULL.")
    static void promise30Bad() {
        CoatPockets x = new CoatPockets();
        x.sheet(0, 0, 3);
        x.sheet(3, 0, 3);
        int[] none = {-1, 4, 5, Integer.MIN_VALUE, Integer.MAX_VALUE};
        for (int s : none) {
            Due.due("drop(" + s + ")", x.drop(s), -1);
        }
        Due.due("drop(0)", x.drop(0), 3);
        Due.due("drop(3)", x.drop(3), 3);
    }
}
