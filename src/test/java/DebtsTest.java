/** Promises 21 to 23: debts and payments. */
final class DebtsTest {
    public static void main(String[] args) {
        owing();
        payments();
        manyPayments();
        Due.end();
    }

    private static void owing() {
        CoatPockets x = new CoatPockets();
        int[][] bad = {
            {-1, 0, 1}, {8, 0, 1}, {0, -1, 1}, {0, 8, 1}, {3, 3, 1}, {0, 1, -1}, {0, 1, 1000}, {Integer.MIN_VALUE, 0, 1},
            {0, Integer.MAX_VALUE, 1}, {0, 1, Integer.MAX_VALUE}
        };
        for (int[] b : bad) {
            Due.due("owe(" + b[0] + ", " + b[1] + ", " + b[2] + ")", x.owe(b[0], b[1], b[2]), -1);
        }
        Due.due("owe(0, 1, 999)", x.owe(0, 1, 999), 0);
        Due.due("owe(0, 1, 5)", x.owe(0, 1, 5), 999);
        Due.due("owe(1, 0, 7): another debt", x.owe(1, 0, 7), 0);
        Due.due("owe(0, 1, 0)", x.owe(0, 1, 0), 5);
        x.owe(0, 1, 5);
        x.owe(7, 0, 100);
        Due.due("balance(0)", x.balance(0), 102);
        Due.due("balance(1)", x.balance(1), -2);
        Due.due("balance(7)", x.balance(7), -100);
        Due.due("balance(6)", x.balance(6), 0);
        int[] none = {-1, 8, Integer.MIN_VALUE, Integer.MAX_VALUE};
        for (int boy : none) {
            Due.due("balance(" + boy + ")", x.balance(boy), -100001);
        }
        for (int other = 1; other < 8; other++) {
            x.owe(0, other, 999);
            x.owe(other, 0, 0);
        }
        Due.due("the least balance", x.balance(0), -6993);
    }

    private static void payments() {
        CoatPockets x = new CoatPockets();
        Due.due("payments() of none", x.payments(), 0);
        x.owe(0, 1, 5);
        Due.due("payments() of one", x.payments(), 1);
        x.owe(1, 2, 5);
        Due.due("payments() past one who is even", x.payments(), 1);
        x.owe(2, 0, 5);
        Due.due("payments() of a ring", x.payments(), 0);
        // Balances -3, -5, 3, 5 as 0 owes 3, 1 owes 5, 2 and 3 have them.
        CoatPockets y = new CoatPockets();
        y.owe(0, 3, 3);
        y.owe(1, 3, 2);
        y.owe(1, 2, 3);
        Due.due("payments() of two pairs", y.payments(), 2);
        y.owe(4, 2, 1);
        Due.due("payments() of two sets of five", y.payments(), 3);
        // Greedy pairs can miss the best sets: -4, -4, 3, 5 and -2, 2.
        CoatPockets z = new CoatPockets();
        z.owe(0, 2, 3);
        z.owe(0, 3, 1);
        z.owe(1, 3, 4);
        z.owe(4, 5, 2);
        Due.due("payments() of four and two", z.payments(), 4);
    }

    private static void manyPayments() {
        int state = 7;
        for (int round = 0; round < 300; round++) {
            CoatPockets x = new CoatPockets();
            int[] balances = new int[8];
            int debts = 3 + round % 10;
            boolean[] told = new boolean[64];
            for (int k = 0; k < debts; k++) {
                state = state * 1103515245 + 12345;
                int a = state >>> 16 & 7;
                int b = state >>> 20 & 7;
                int v = (state >>> 24 & 63) % (2 + round % 7);
                if (a != b && !told[a * 8 + b]) {
                    told[a * 8 + b] = true;
                    x.owe(a, b, v);
                    balances[a] -= v;
                    balances[b] += v;
                }
            }
            for (int boy = 0; boy < 8; boy++) {
                Due.due("balance(" + boy + ") of round " + round, x.balance(boy), balances[boy]);
            }
            Due.due("payments() of round " + round, x.payments(), Naive.fewestPayments(balances, 0));
        }
    }
}
