/** Promise 21: owe. */
final class Promise21Test {
    public static void main(String[] args) throws ReflectiveOperationException {
        Due.run(Promise21Test.class);
    }

    @Says("The first OWES the second v (0 .. 999): what it was.")
    static void promise21LeastAndMost() {
        CoatPockets x = new CoatPockets();
        Due.due("owe(0, 7, 999)", x.owe(0, 7, 999), 0);
        Due.due("owe(0, 7, 0)", x.owe(0, 7, 0), 999);
        Due.due("owe(0, 7, 1)", x.owe(0, 7, 1), 0);
        Due.due("owe(0, 7, 1) again", x.owe(0, 7, 1), 1);
    }

    @Says("The first OWES the second v (0 .. 999): what it was.")
    static void promise21BadMarbles() {
        CoatPockets x = new CoatPockets();
        x.owe(1, 2, 7);
        int[] none = {-1, 1000, 1001, Integer.MIN_VALUE, Integer.MAX_VALUE};
        for (int v : none) {
            Due.due("owe(1, 2, " + v + ")", x.owe(1, 2, v), -1);
        }
        Due.due("it stays", x.owe(1, 2, 7), 7);
    }

    @Says("BAD: also one alike.")
    static void promise21BadBoys() {
        CoatPockets x = new CoatPockets();
        int[] none = {-1, 8, 9, 64, Integer.MIN_VALUE, Integer.MAX_VALUE};
        for (int boy : none) {
            for (int other = 0; other < 8; other += 7) {
                Due.due("owe(" + boy + ", " + other + ", 1)", x.owe(boy, other, 1), -1);
                Due.due("owe(" + other + ", " + boy + ", 1)", x.owe(other, boy, 1), -1);
            }
        }
        for (int boy = 0; boy < 8; boy++) {
            Due.due("balance(" + boy + ")", x.balance(boy), 0);
        }
    }

    @Says("BAD: also one alike.")
    static void promise21BadOneAlike() {
        CoatPockets x = new CoatPockets();
        for (int boy = 0; boy < 8; boy++) {
            Due.due("owe(" + boy + ", " + boy + ", 0)", x.owe(boy, boy, 0), -1);
            Due.due("owe(" + boy + ", " + boy + ", 5)", x.owe(boy, boy, 5), -1);
            Due.due("balance(" + boy + ")", x.balance(boy), 0);
        }
    }

    @Says("DEBTS: each BOY OWES each other one some MARBLES")
    static void promise21EachPairIsItsOwn() {
        CoatPockets x = new CoatPockets();
        for (int k = 0; k < 64; k++) {
            if (k / 8 != k % 8) {
                Due.due("owe(" + k / 8 + ", " + k % 8 + ", " + k * 9 + ")", x.owe(k / 8, k % 8, k * 9), 0);
            }
        }
        for (int k = 0; k < 64; k++) {
            if (k / 8 != k % 8) {
                Due.due("owe(" + k / 8 + ", " + k % 8 + ", 0)", x.owe(k / 8, k % 8, 0), k * 9);
            }
        }
    }

    @Says("What is refused changes nothing, but as told.")
    static void promise21BadChangesNothing() {
        CoatPockets x = Due.of("01", 0, 0);
        x.owe(0, 1, 5);
        x.owe(1, 0, 3);
        String was = Due.seen(x);
        x.owe(0, 1, 1000);
        x.owe(1, 1, 5);
        x.owe(1, 8, 5);
        x.owe(0, -1, 5);
        Due.unchanged("bad ones", x, was);
    }
}
