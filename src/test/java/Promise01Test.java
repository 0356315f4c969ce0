/** Promise 1: a new object. */
final class Promise01Test {
    public static void main(String[] args) throws ReflectiveOperationException {
        Due.run(Promise01Test.class);
    }

    @Says("No coats, no things.")
    static void promise1NoCoats() {
        CoatPockets x = new CoatPockets();
        Due.due("count(0)", x.count(0), 0);
        for (int c = 0; c < 4; c++) {
            Due.due("of(" + c + ", 0)", x.of(c, 0), -1);
            Due.due("hole(" + c + ", 0)", x.hole(c, 0), -1);
            Due.due("search(" + c + ")", x.search(c), -1);
            Due.due("wore(" + c + ", 0)", x.wore(c, 0), -1);
            Due.due("dealt(" + c + ", 0, 0, -1)", x.dealt(c, 0, 0, -1), -1);
        }
    }

    @Says("No coats, no things.")
    static void promise1NoThings() {
        CoatPockets x = Due.of("0,1");
        Due.due("count(1)", x.count(1), 0);
        for (int t = 0; t < 8; t++) {
            Due.due("where(" + t + ")", x.where(t), -1);
            Due.due("told(" + t + ", 0)", x.told(t, 0), -1);
            Due.due("put(" + t + ", 0)", x.put(t, 0), -1);
            Due.due("take(" + t + ", 0)", x.take(t, 0), -1);
            Due.due("give(" + t + ", 1)", x.give(t, 1), -1);
        }
    }

    @Says("No coats, no things.")
    static void promise1NothingAnywhere() {
        CoatPockets x = new CoatPockets();
        for (int what = 0; what < 6; what++) {
            Due.due("count(" + what + ")", x.count(what), 0);
        }
        Due.due("bell()", x.bell(), 0);
        Due.due("count(2) behind it", x.count(2), 1);
    }

    @Says("each BOY OWES each other one some MARBLES (0 at first)")
    static void promise1NobodyOwes() {
        CoatPockets x = new CoatPockets();
        Due.due("payments()", x.payments(), 0);
        for (int boy = 0; boy < 8; boy++) {
            Due.due("balance(" + boy + ")", x.balance(boy), 0);
        }
        for (int a = 0; a < 8; a++) {
            for (int b = 0; b < 8; b++) {
                Due.due("owe(" + a + ", " + b + ", 3)", x.owe(a, b, 3), a == b ? -1 : 0);
            }
        }
    }

    @Says("THE DRAW (a number of 31 bits, 1 at first")
    static void promise1TheDrawIsOne() {
        Due.due("seed(5)", new CoatPockets().seed(5), 1);
    }

    @Says("sheets 0 .. 3: nothing (at first)")
    static void promise1SheetsHoldNothing() {
        CoatPockets x = new CoatPockets();
        for (int s = 0; s < 4; s++) {
            Due.due("drop(" + s + ")", x.drop(s), -11);
            for (int lane = 0; lane < 3; lane++) {
                Due.due("item(" + s + ", " + lane + ", 0, 1)", x.item(s, lane, 0, 1), -11);
            }
        }
    }

    @Says("No coats, no things.")
    static void promise1NothingTyped() {
        Due.due("school()", new CoatPockets().school(), -20);
        Due.due("day()", new CoatPockets().day(), -20);
        Due.due("type(48, 1)", new CoatPockets().type('0', 1), 1);
    }

    @Says("No coats, no things.")
    static void promise1WhatAnotherObjectHolds() {
        CoatPockets x = Due.of("01h3", 0, 0, 2);
        x.put(1, 0);
        x.bell();
        x.owe(0, 1, 5);
        x.sheet(0, 0, 3);
        x.image();
        Due.type(x, "0123");
        CoatPockets y = new CoatPockets();
        for (int what = 0; what < 6; what++) {
            Due.due("count(" + what + ")", y.count(what), 0);
        }
        Due.due("balance(1)", y.balance(1), 0);
        Due.due("drop(0)", y.drop(0), -11);
        Due.due("restore()", y.restore(), -4);
        Due.due("type(48, 1)", y.type('0', 1), 1);
        Due.due("count(1) of the other", x.count(1), 2);
    }

    @Says("An object is used for at most 512 calls after it has been made; what later calls answer is free.")
    static void promise1TheLastOfSoManyCalls() {
        CoatPockets x = new CoatPockets();
        for (int call = 1; call < 512; call++) {
            Due.due("bell() as call " + call, x.bell(), 0);
        }
        Due.due("count(2) as call 512", x.count(2), 511);
    }
}
