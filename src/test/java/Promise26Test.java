/** Promise 26: restore. */
final class Promise26Test {
    public static void main(String[] args) throws ReflectiveOperationException {
        Due.run(Promise26Test.class);
    }

    private static CoatPockets kept() {
        CoatPockets x = Due.of("012h3,34,5h1", 0, 0, 2);
        x.thing(1, 3);
        x.thing(3, 5);
        x.thing(2, 7);
        Due.due("a day", Due.day(x, "p0>0;p1>0;p2>1;p3>2"), 4);
        x.owe(0, 1, 33);
        x.owe(6, 7, 44);
        x.seed(0);
        Due.due("bell()", x.bell(), 2);
        Due.due("image()", x.image(), 1);
        return x;
    }

    @Says("NONE: there is none.")
    static void promise26NoneWithoutAnImage() {
        CoatPockets x = Due.of("01", 0, 2);
        x.put(0, 0);
        x.bell();
        String was = Due.seen(x);
        Due.due("restore()", x.restore(), -4);
        Due.unchanged("restore of none", x, was);
        x.image();
        Due.due("restore() of one", x.restore(), 1);
    }

    @Says("All is as it was then: 1.")
    static void promise26CoatsAreAsTheyWere() {
        CoatPockets x = kept();
        Due.school(x, "7h2,65,4321h3,0");
        x.bell();
        Due.due("restore()", x.restore(), 1);
        Due.due("count(0)", x.count(0), 3);
        Due.coat("of the first", x, 0, 1, 3, 3, 8, 3, 0, 1, 2, -4);
        Due.coat("of the second", x, 1, 4, 2, 0, 0, 0, 3, 4, -4, -4);
        Due.coat("of the third", x, 2, 5, 1, 1, 0, 0, 5, -4, -4, -4);
        Due.due("of(3, 0)", x.of(3, 0), -1);
        x.bell();
        Due.due("of(0, 0) a bell later", x.of(0, 0), 2);
        Due.due("of(1, 0) a bell later", x.of(1, 0), 3);
    }

    @Says("All is as it was then: 1.")
    static void promise26ThingsAreAsTheyWere() {
        CoatPockets x = kept();
        x.search(0);
        x.thing(2, 1);
        x.day();
        Due.due("count(1) ahead", x.count(1), 6);
        Due.due("told(1, 1) ahead", x.told(1, 1), 3);
        Due.due("restore()", x.restore(), 1);
        Due.due("count(1)", x.count(1), 5);
        Due.places("then", x, 20, 20, 30, 10, 7);
        Due.due("told(1, 1)", x.told(1, 1), 1);
        Due.due("told(2, 2)", x.told(2, 2), 3);
        Due.due("told(4, 0)", x.told(4, 0), 2);
        Due.due("the next one is new", x.thing(1, 6), 5);
        Due.due("told(5, 0)", x.told(5, 0), 1);
        Due.due("told(5, 1)", x.told(5, 1), 0);
        Due.due("told(5, 2)", x.told(5, 2), 8);
        Due.due("where(5)", x.where(5), 6);
    }

    @Says("All is as it was then: 1.")
    static void promise26EatenAndReadBehindTheImage() {
        CoatPockets x = Due.of("07", 0, 1, 2);
        x.image();
        Due.day(x, "p0>0;p1>0;b");
        Due.due("told(0, 2) ahead", x.told(0, 2), 0);
        Due.due("told(1, 1) ahead", x.told(1, 1), 129);
        Due.due("restore()", x.restore(), 1);
        Due.due("told(0, 2): nobody", x.told(0, 2), 8);
        Due.due("told(1, 1): nobody", x.told(1, 1), 0);
        Due.places("then", x, 0, 0);
    }

    @Says("All is as it was then: 1.")
    static void promise26ThingsOfOtherKindsBehindTheImage() {
        CoatPockets x = Due.of("0");
        x.image();
        x.thing(1, 0);
        x.restore();
        Due.due("thing(2, 0)", x.thing(2, 0), 0);
        x.image();
        x.restore();
        Due.due("told(0, 0)", x.told(0, 0), 2);
        x.put(0, 0);
        x.bell();
        Due.due("it is no sweet", x.where(0), 10);
        Due.due("told(0, 1)", x.told(0, 1), 1);
    }

    @Says("All is as it was then: 1.")
    static void promise26BellsDrawAndDebtsAreAsTheyWere() {
        CoatPockets x = kept();
        x.bell();
        x.seed(5);
        x.owe(0, 1, 1);
        x.owe(3, 1, 999);
        Due.due("restore()", x.restore(), 1);
        Due.due("count(2)", x.count(2), 1);
        Due.due("seed(1)", x.seed(1), 1406932606);
        Due.due("owe(0, 1, 0)", x.owe(0, 1, 0), 33);
        Due.due("owe(3, 1, 0)", x.owe(3, 1, 0), 0);
        Due.due("owe(6, 7, 0)", x.owe(6, 7, 0), 44);
    }

    @Says("All is as it was then: 1.")
    static void promise26AgainAndAgain() {
        CoatPockets x = kept();
        String was = Due.seen(x);
        for (int k = 0; k < 3; k++) {
            Due.school(x, "65");
            x.bell();
            x.owe(0, 1, k);
            Due.due("restore()", x.restore(), 1);
            Due.unchanged("restore " + k, x, was);
        }
    }

    @Says("All but SHEETS, THE TAPE is kept")
    static void promise26SheetsStay() {
        CoatPockets x = new CoatPockets();
        Rows.lay(x, 0, 0, 1, 2, 3);
        x.sheet(1, 2, 5);
        x.image();
        x.item(0, 0, 0, 7);
        x.drop(1);
        x.sheet(2, 1, 24);
        Due.due("restore()", x.restore(), 1);
        Rows.holds("then", x, 0, 0, 0, 7, 2, 3);
        Due.due("drop(1)", x.drop(1), -11);
        Due.due("drop(2)", x.drop(2), 24);
    }

    @Says("All but SHEETS, THE TAPE is kept")
    static void promise26TapeStays() {
        CoatPockets x = new CoatPockets();
        Due.type(x, "01");
        x.image();
        Due.due("one more", Due.type(x, ",2"), 4);
        Due.due("restore()", x.restore(), 1);
        Due.due("one more", Due.type(x, "3"), 5);
        Due.due("school()", x.school(), 2);
        Due.due("of(1, 6)", x.of(1, 6), 3);
        Due.due("restore()", x.restore(), 1);
        Due.due("the tape is empty still", x.school(), -20);
    }
}
