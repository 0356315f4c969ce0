/** Promise 15: give. */
final class Promise15Test {
    public static void main(String[] args) throws ReflectiveOperationException {
        Due.run(Promise15Test.class);
    }

    private static void not(String why, String school, int from, int to) {
        CoatPockets x = Due.of(school, from, 0);
        Due.due("give(0, " + to + "): " + why, x.give(0, to), -2);
        Due.due("where(0) behind it", x.where(0), from);
    }

    @Says({"TO GIVE: who did.", "TO GIVE: a THING goes from HANDS to the HANDS of another BOY, if both WEAR a COAT now."})
    static void promise15FirstAndLastBoy() {
        CoatPockets x = Due.of("0,1,2,7", 0, 0);
        Due.due("give(0, 7)", x.give(0, 7), 0);
        Due.due("where(0)", x.where(0), 7);
        Due.due("give(0, 0)", x.give(0, 0), 7);
        Due.due("where(0)", x.where(0), 0);
    }

    @Says("TO GIVE: who did. BAD;")
    static void promise15BadNoSuchThing() {
        CoatPockets x = Due.of("0,1", 0, 0, 0);
        int[] none = {-1, 2, 7, 8, Integer.MIN_VALUE, Integer.MAX_VALUE};
        for (int t : none) {
            Due.due("give(" + t + ", 1)", x.give(t, 1), -1);
        }
        Due.places("behind", x, 0, 0);
    }

    @Says("TO GIVE: who did. BAD;")
    static void promise15BadNoSuchBoy() {
        CoatPockets x = Due.of("0,1", 0, 0, 0);
        int[] none = {-1, 8, 10, 11, Integer.MIN_VALUE, Integer.MAX_VALUE};
        for (int boy : none) {
            Due.due("give(0, " + boy + ")", x.give(0, boy), -1);
        }
        Due.places("behind", x, 0, 0);
    }

    @Says("NOT: it is not in HANDS;")
    static void promise15NotInHands() {
        CoatPockets x = Due.of("0h3,1,0", 0, 0, 1);
        x.put(0, 0);
        x.put(1, 2);
        for (int boy = 0; boy < 8; boy++) {
            Due.due("in a pocket, to " + boy, x.give(0, boy), -2);
        }
        x.seed(0);
        x.bell();
        Due.places("behind a bell", x, 20, 30);
        for (int boy = 0; boy < 8; boy++) {
            Due.due("in a lining, to " + boy, x.give(0, boy), -2);
            Due.due("eaten, to " + boy, x.give(1, boy), -2);
        }
        Due.places("behind refused ones", x, 20, 30);
    }

    @Says("the other one has it;")
    static void promise15NotToHimself() {
        not("he has it", "0,1", 0, 0);
        not("he has it, and wears two", "0,0", 0, 0);
        not("he has it, and wears none", "0,1", 7, 7);
    }

    @Says("one of both WEARS no COAT.")
    static void promise15NotByOrToWhoWearsNone() {
        not("the other is of no turn", "0,1", 0, 2);
        not("the giver is of no turn", "0,1", 2, 0);
        not("the other wears it later", "02,1", 0, 2);
        not("the giver wears it later", "02,1", 2, 0);
        not("neither wears any", "0,1", 6, 7);
        not("the first boy wears none", "1,2", 1, 0);
        not("the first boy has it, and wears none", "1,2", 0, 1);
        not("the first boy wears it later", "10,2,30,45", 2, 0);
        not("no coats at all", "", 0, 1);
    }

    @Says("one of both WEARS no COAT.")
    static void promise15NotToWhoWoreACoatOfAnEarlierSchool() {
        CoatPockets x = Due.of("1,2,3,4", 1, 0);
        Due.school(x, "1");
        for (int boy = 0; boy < 8; boy++) {
            Due.due("give(0, " + boy + ")", x.give(0, boy), -2);
        }
        Due.school(x, "1,2");
        Due.due("give(0, 2)", x.give(0, 2), 1);
        Due.due("give(0, 3)", x.give(0, 3), -2);
    }

    @Says("if both WEAR a COAT now.")
    static void promise15AsTheyComeToWear() {
        CoatPockets x = Due.of("01,23", 1, 0);
        Due.due("ahead of a bell", x.give(0, 3), -2);
        x.bell();
        Due.due("behind a bell", x.give(0, 3), 1);
        x.bell();
        Due.due("behind another", x.give(0, 1), -2);
        Due.due("by one who wears none now", x.give(0, 0), -2);
        x.bell();
        Due.due("behind a third", x.give(0, 1), 3);
    }

    @Says({"BAD; NOT:", "What is refused changes nothing, but as told."})
    static void promise15RefusedChangesNothing() {
        CoatPockets x = Due.of("0,1", 0, 2, 0);
        x.put(0, 0);
        String was = Due.seen(x);
        Due.due("in a pocket", x.give(0, 1), -2);
        Due.due("to who wears none", x.give(1, 5), -2);
        Due.due("in a pocket, to no boy", x.give(0, 8), -1);
        Due.due("no thing, to who wears none", x.give(2, 5), -1);
        Due.unchanged("refused ones", x, was);
    }

    @Says("2 NOTE (is READ, in a POCKET, by who WEARS the COAT:")
    static void promise15NoteIsNotReadInHands() {
        CoatPockets x = Due.of("0,1", 0, 2);
        Due.due("give(0, 1)", x.give(0, 1), 0);
        x.bell();
        Due.due("told(0, 1)", x.told(0, 1), 0);
    }
}
