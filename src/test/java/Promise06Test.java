/** Promise 6: of. */
final class Promise06Test {
    public static void main(String[] args) throws ReflectiveOperationException {
        Due.run(Promise06Test.class);
    }

    @Says("Of a COAT: 0 who WEARS it")
    static void promise6FirstAndLastBoyWear() {
        CoatPockets x = Due.of("07,70");
        Due.due("of(0, 0)", x.of(0, 0), 0);
        Due.due("of(1, 0)", x.of(1, 0), 7);
        x.bell();
        Due.due("of(0, 0) a bell later", x.of(0, 0), 7);
        Due.due("of(1, 0) a bell later", x.of(1, 0), 0);
    }

    @Says({"1 how many are in its TURN", "2 HOLE"})
    static void promise6LeastAndMostOfTurnAndHole() {
        CoatPockets x = Due.of("5,51h1,512h2,5123h3");
        for (int c = 0; c < 4; c++) {
            Due.due("of(" + c + ", 1)", x.of(c, 1), c + 1);
            Due.due("of(" + c + ", 2)", x.of(c, 2), c);
        }
    }

    @Says({"3 THINGS in its POCKET", "(sets)"})
    static void promise6EmptyAndFullPocket() {
        CoatPockets x = Due.of("0,0", 0, 0, 0, 0, 0, 0, 0, 0, 0);
        Due.due("of(0, 3) of none", x.of(0, 3), 0);
        x.put(7, 0);
        Due.due("of(0, 3) of the last", x.of(0, 3), 128);
        x.put(0, 1);
        Due.due("of(1, 3) of the first", x.of(1, 3), 1);
        x.take(0, 1);
        for (int t = 0; t < 7; t++) {
            x.put(t, 0);
        }
        Due.due("of(0, 3) of all", x.of(0, 3), 255);
        Due.due("of(1, 3) of none", x.of(1, 3), 0);
        Due.due("of(0, 4) of none", x.of(0, 4), 0);
    }

    @Says({"4 in its LINING (sets)", "Sets are bits."})
    static void promise6EmptyAndFullLining() {
        CoatPockets x = Due.of("0h3,0h3", 0, 0, 0, 0, 0, 0, 0, 0, 0);
        for (int t = 0; t < 8; t++) {
            x.put(t, 0);
        }
        Due.due("of(0, 4) of none", x.of(0, 4), 0);
        for (int k = 0; k < 8; k++) {
            x.seed(0);
            x.bell();
        }
        Due.due("of(0, 4) of all", x.of(0, 4), 255);
        Due.due("of(0, 3) of none", x.of(0, 3), 0);
        Due.due("of(1, 4) of none", x.of(1, 4), 0);
    }

    @Says({"3 THINGS in its POCKET", "4 in its LINING (sets)"})
    static void promise6PocketsAndLiningsOfEachCoat() {
        for (int c = 0; c < 4; c++) {
            CoatPockets x = Due.of("0h3,0h3,0h3,0h3", 0, 0, 0, 0);
            x.put(1, c);
            x.put(2, c);
            for (int other = 0; other < 4; other++) {
                Due.due("of(" + other + ", 3), it is in " + c, x.of(other, 3), other == c ? 6 : 0);
                Due.due("of(" + other + ", 4), it is in " + c, x.of(other, 4), 0);
            }
            x.seed(0);
            Due.due("bell()", x.bell(), 2);
            for (int other = 0; other < 4; other++) {
                Due.due("of(" + other + ", 3), it fell in " + c, x.of(other, 3), 0);
                Due.due("of(" + other + ", 4), it fell in " + c, x.of(other, 4), other == c ? 6 : 0);
            }
        }
    }

    @Says({"5 .. 8 the BOYS of its TURN (NONE: not so many).", "NONE -4 (as told)"})
    static void promise6NoneNotSoMany() {
        CoatPockets x = Due.of("7,60,501,4012");
        Due.coat("of one", x, 0, 7, 1, 0, 0, 0, 7, -4, -4, -4);
        Due.coat("of two", x, 1, 6, 2, 0, 0, 0, 6, 0, -4, -4);
        Due.coat("of three", x, 2, 5, 3, 0, 0, 0, 5, 0, 1, -4);
        Due.coat("of four", x, 3, 4, 4, 0, 0, 0, 4, 0, 1, 2);
    }

    @Says("5 .. 8 the BOYS of its TURN (NONE: not so many).")
    static void promise6NoneWhereAnEarlierSchoolHadMore() {
        CoatPockets x = Due.of("0123,4567");
        Due.school(x, "7,65");
        Due.coat("of one", x, 0, 7, 1, 0, 0, 0, 7, -4, -4, -4);
        Due.coat("of two", x, 1, 6, 2, 0, 0, 0, 6, 5, -4, -4);
        Due.due("of(2, 8)", x.of(2, 8), -1);
    }

    @Says("5 .. 8 the BOYS of its TURN (NONE: not so many).")
    static void promise6TurnStaysAtABell() {
        CoatPockets x = Due.of("0123");
        x.bell();
        x.bell();
        Due.coat("two bells later", x, 0, 2, 4, 0, 0, 0, 0, 1, 2, 3);
    }

    @Says("(NONE: not so many). BAD.")
    static void promise6BadNoSuchCoat() {
        CoatPockets x = new CoatPockets();
        int[] none = {-1, 4, 5, Integer.MIN_VALUE, Integer.MAX_VALUE};
        for (int c = 0; c < 4; c++) {
            for (int other : none) {
                Due.due("of(" + other + ", 0)", x.of(other, 0), -1);
                Due.due("of(" + other + ", 8), ahead of NONE", x.of(other, 8), -1);
            }
            for (int what = 0; what < 9; what++) {
                Due.due("of(" + c + ", " + what + ") of " + c, x.of(c, what), -1);
            }
            x.coat(c, 1, 0);
            Due.due("of(" + c + ", 0) of one more", x.of(c, 0), c);
        }
    }

    @Says("(NONE: not so many). BAD.")
    static void promise6BadWhat() {
        CoatPockets x = Due.of("0123");
        int[] none = {-1, 9, 10, Integer.MIN_VALUE, Integer.MAX_VALUE};
        for (int what : none) {
            Due.due("of(0, " + what + ")", x.of(0, what), -1);
        }
        Due.due("of(0, 8)", x.of(0, 8), 3);
    }
}
