/** Promise 23: payments. */
final class Promise23Test {
    public static void main(String[] args) throws ReflectiveOperationException {
        Due.run(Promise23Test.class);
    }

    /** Debts from which boys have these balances; they come to 0 together. */
    private static CoatPockets of(int... balances) {
        CoatPockets x = new CoatPockets();
        int carried = 0;
        for (int boy = 0; boy + 1 < balances.length; boy++) {
            carried += balances[boy];
            Due.due("owe", carried < 0 ? x.owe(boy, boy + 1, -carried) : x.owe(boy + 1, boy, carried), 0);
        }
        for (int boy = 0; boy < balances.length; boy++) {
            Due.due("balance(" + boy + ")", x.balance(boy), balances[boy]);
        }
        return x;
    }

    private static void payments(int want, int... balances) {
        Due.due("payments() of " + java.util.Arrays.toString(balances), of(balances).payments(), want);
    }

    @Says("PAYMENTS.")
    static void promise23AsDebtsChange() {
        CoatPockets x = of(-1, -2, 3, 0, 0, -5, 5);
        Due.due("payments()", x.payments(), 3);
        x.owe(0, 1, 2);
        Due.due("payments() of -2, -1, 3 and 5", x.payments(), 3);
        x.owe(2, 5, 3);
        Due.due("payments() of -2, -1, -2, 5", x.payments(), 3);
        x.owe(6, 5, 5);
        x.owe(1, 2, 3);
        Due.due("payments()", x.payments(), Naive.fewestPayments(balances(x), 0));
        for (int a = 0; a < 8; a++) {
            for (int b = 0; b < 8; b++) {
                x.owe(a, b, 0);
            }
        }
        Due.due("payments() of none", x.payments(), 0);
        x.owe(3, 4, 9);
        x.owe(5, 6, 9);
        Due.due("payments() of two pairs", x.payments(), 2);
    }

    private static int[] balances(CoatPockets x) {
        int[] balances = new int[8];
        for (int boy = 0; boy < 8; boy++) {
            balances[boy] = x.balance(boy);
        }
        return balances;
    }

    @Says({"PAYMENTS.", "PAYMENTS: the fewest by which all BALANCES are paid off"})
    static void promise23NoneAreDue() {
        Due.due("of no debts", new CoatPockets().payments(), 0);
        payments(0, 0, 0, 0, 0, 0, 0, 0, 0);
    }

    @Says("BOYS whose BALANCE is not 0")
    static void promise23EvenOnesDoNotCount() {
        CoatPockets x = new CoatPockets();
        x.owe(0, 1, 5);
        x.owe(1, 2, 5);
        x.owe(2, 0, 5);
        Due.due("a ring", x.payments(), 0);
        x.owe(2, 0, 0);
        Due.due("past one who is even", x.payments(), 1);
        CoatPockets y = new CoatPockets();
        y.owe(6, 7, 999);
        y.owe(7, 6, 999);
        Due.due("both ways", y.payments(), 0);
    }

    @Says("each from one BOY to another one of as many MARBLES as wanted:")
    static void promise23OneIsEnoughForTwo() {
        payments(1, -1, 1);
        payments(1, 0, 0, 0, 0, 0, 0, -999, 999);
        payments(2, -999, 998, 1);
        CoatPockets x = new CoatPockets();
        for (int other = 1; other < 8; other++) {
            x.owe(0, other, 999);
        }
        Due.due("one who owes all others", x.payments(), 7);
    }

    @Says("less the most sets into which these can be parted so that BALANCES of each come to 0.")
    static void promise23AsManySetsAsCanBe() {
        payments(4, -1, 1, -2, 2, -3, 3, -4, 4);
        payments(4, -1, -2, -3, -4, 4, 3, 2, 1);
        payments(7, 1, 2, 4, 8, 16, 32, 64, -127);
        payments(4, -5, -5, 3, 7, -2, 2);
        payments(4, -4, -4, 3, 5, -2, 2);
        payments(5, -1, -1, -1, 3, 2, 2, -4);
        payments(6, 3, 3, 3, 3, -4, -4, -4);
        payments(7, 5, 5, 5, -3, -3, -3, -3, -3);
    }

    @Says("PAYMENTS: the fewest by which all BALANCES are paid off")
    static void promise23AsByTryingAllPayments() {
        int state = 7;
        for (int round = 0; round < 300; round++) {
            int[] balances = new int[8];
            for (int k = 0; k < 3 + round % 10; k++) {
                state = state * 1103515245 + 12345;
                int a = state >>> 16 & 7;
                int b = state >>> 20 & 7;
                int v = (state >>> 24 & 63) % (2 + round % 7);
                balances[a] -= v;
                balances[b] += v;
            }
            payments(Naive.fewestPayments(balances.clone(), 0), balances);
        }
    }

    @Says("What is refused changes nothing, but as told.")
    static void promise23ChangesNothing() {
        CoatPockets x = of(-1, -2, 3);
        String was = Due.seen(x);
        Due.due("payments()", x.payments(), 2);
        Due.due("payments() again", x.payments(), 2);
        Due.unchanged("payments", x, was);
    }
}
