/** Promise 22: balance. */
final class Promise22Test {
    public static void main(String[] args) throws ReflectiveOperationException {
        Due.run(Promise22Test.class);
    }

    @Says("A BOY's BALANCE is what others OWE him, less what he OWES.")
    static void promise22MostAndLeast() {
        for (int boy = 0; boy < 8; boy += 7) {
            CoatPockets x = new CoatPockets();
            for (int other = 0; other < 8; other++) {
                x.owe(other, boy, 999);
            }
            Due.due("the most, of " + boy, x.balance(boy), 6993);
            Due.due("of another", x.balance(3), -999);
            for (int other = 0; other < 8; other++) {
                x.owe(boy, other, 999);
            }
            Due.due("both ways, of " + boy, x.balance(boy), 0);
            for (int other = 0; other < 8; other++) {
                x.owe(other, boy, 0);
            }
            Due.due("the least, of " + boy, x.balance(boy), -6993);
            Due.due("of another", x.balance(3), 999);
        }
    }

    @Says("A BOY's BALANCE is what others OWE him, less what he OWES.")
    static void promise22BelowZero() {
        CoatPockets x = new CoatPockets();
        x.owe(0, 7, 1);
        Due.due("balance(0) is no refusal", x.balance(0), -1);
        Due.due("balance(7)", x.balance(7), 1);
        x.owe(0, 7, 2);
        Due.due("balance(0) is no refusal", x.balance(0), -2);
        x.owe(7, 0, 2);
        Due.due("balance(0) of even ones", x.balance(0), 0);
    }

    @Says({"BALANCE. BAD less 100000.", "Where a told thing may be below 0, refused ones are 100000 less (-100001 and so on)."})
    static void promise22BadBoy() {
        CoatPockets x = new CoatPockets();
        x.owe(0, 7, 5);
        int[] none = {-1, 8, 9, Integer.MIN_VALUE, Integer.MAX_VALUE};
        for (int boy : none) {
            Due.due("balance(" + boy + ")", x.balance(boy), -100001);
        }
        Due.due("balance(7)", x.balance(7), 5);
    }
}
