/** Promise 9: school. */
final class Promise09Test {
    public static void main(String[] args) throws ReflectiveOperationException {
        Due.run(Promise09Test.class);
    }

    /** The first byte of a text that can't stand there; all that was told stays, and the tape is empty. */
    private static void fault(String text, int place) {
        CoatPockets x = Due.of("67h2,5", 6, 0, 2);
        x.put(1, 0);
        x.bell();
        String was = Due.seen(x);
        Due.due("school \"" + text + "\"", Due.school(x, text), -20 - place);
        Due.unchanged("school \"" + text + "\"", x, was);
        Due.due("the tape is empty behind \"" + text + "\"", x.type('4', 1), 1);
        Due.due("school() of 4", x.school(), 1);
    }

    @Says({"A SCHOOL is a TEXT: 1 to 4 COATS with , between:", "is a SCHOOL: how many COATS."})
    static void promise9OneCoatAndFour() {
        CoatPockets x = new CoatPockets();
        Due.due("one", Due.school(x, "5"), 1);
        Due.due("count(0)", x.count(0), 1);
        Due.due("four", Due.school(x, "5,6,7,0"), 4);
        Due.due("count(0)", x.count(0), 4);
        Due.due("two", Due.school(x, "1,2"), 2);
        Due.due("count(0)", x.count(0), 2);
        Due.due("of(2, 0)", x.of(2, 0), -1);
    }

    @Says("1 to 4 unlike digits 0 .. 7 (its TURN)")
    static void promise9OneBoyAndFour() {
        CoatPockets x = Due.of("7,0123,34,654");
        Due.coat("of 7", x, 0, 7, 1, 0, 0, 0, 7, -4, -4, -4);
        Due.coat("of 0123", x, 1, 0, 4, 0, 0, 0, 0, 1, 2, 3);
        Due.coat("of 34", x, 2, 3, 2, 0, 0, 0, 3, 4, -4, -4);
        Due.coat("of 654", x, 3, 6, 3, 0, 0, 0, 6, 5, 4, -4);
    }

    @Says("perhaps h and a digit 0 .. 3 (HOLE; 0)")
    static void promise9Holes() {
        CoatPockets x = Due.of("0h3,1h0,2,3210h1");
        int[] holes = {3, 0, 0, 1};
        for (int c = 0; c < 4; c++) {
            Due.due("of(" + c + ", 2)", x.of(c, 2), holes[c]);
        }
        Due.school(x, "0,1h2");
        Due.due("of(0, 2) where a hole was", x.of(0, 2), 0);
        Due.due("of(1, 2) where none was", x.of(1, 2), 2);
    }

    @Says("(blanks are passed over, but counted)")
    static void promise9BlanksAnywhere() {
        CoatPockets x = Due.of(" 6  5 h 2 ,  7 , 0 1 2 3 h 3   ");
        Due.coat("of 65h2", x, 0, 6, 2, 2, 0, 0, 6, 5, -4, -4);
        Due.coat("of 7", x, 1, 7, 1, 0, 0, 0, 7, -4, -4, -4);
        Due.coat("of 0123h3", x, 2, 0, 4, 3, 0, 0, 0, 1, 2, 3);
    }

    @Says("the end: how many bytes there are")
    static void promise9FaultOfNothingAtAll() {
        fault("", 0);
        fault(" ", 1);
        fault("     ", 5);
        fault(" ".repeat(99), 99);
        fault(" ".repeat(100), 100);
    }

    @Says({"1 to 4 unlike digits 0 .. 7 (its TURN)", "FAULTS: -20 less the place of the first byte"})
    static void promise9FaultNoBoy() {
        String[] none = {"8", "9", ",", "h", "a", "/", ":", "~", "!", "-1", "8,0", ",0", "h0", "x1"};
        for (String text : none) {
            fault(text, 0);
        }
        fault("0,8", 2);
        fault("0,h1", 2);
        fault("7,6,,5", 4);
        fault("18", 1);
        fault("0128", 3);
        fault("1/", 1);
        fault("1:", 1);
    }

    @Says("of a BOY told twice the second digit;")
    static void promise9FaultBoyTwice() {
        fault("00", 1);
        fault("77", 1);
        fault("010", 2);
        fault("011", 2);
        fault("0120", 3);
        fault("0121h9", 3);
        fault("0122", 3);
        fault("0 0", 2);
        fault("0,1,2,33", 7);
        fault("01,2 3  2 ,x", 8);
    }

    @Says("in place of all COATS;")
    static void promise9BoyInTwoCoatsIsNoFault() {
        CoatPockets x = Due.of("01,10,0,1");
        Due.due("of(1, 0)", x.of(1, 0), 1);
        Due.due("of(1, 6)", x.of(1, 6), 0);
    }

    @Says("1 to 4 unlike digits 0 .. 7 (its TURN)")
    static void promise9FaultFifthBoy() {
        fault("01234", 4);
        fault("01230", 4);
        fault("01238", 4);
        fault("0123 4", 5);
        fault("0123  ,4567  0", 13);
    }

    @Says("perhaps h and a digit 0 .. 3 (HOLE; 0)")
    static void promise9FaultHole() {
        fault("0h", 2);
        fault("0h  ", 4);
        fault("0h4", 2);
        fault("0h7", 2);
        fault("0h/", 2);
        fault("0h:", 2);
        fault("0h,1", 2);
        fault("0hh1", 2);
        fault("0h-1", 2);
        fault("0123h4", 5);
        fault("0 h  4", 5);
        fault("0,1,2,3h", 8);
        fault("0,1,2,3h4", 8);
    }

    @Says("perhaps h and a digit 0 .. 3 (HOLE; 0)")
    static void promise9FaultBehindHole() {
        fault("0h12", 3);
        fault("0h1h1", 3);
        fault("0h1 2", 4);
        fault("0h1x", 3);
        fault("0,1h11", 5);
    }

    @Says("1 to 4 COATS with , between:")
    static void promise9FaultComma() {
        fault("0,", 2);
        fault("0, ", 3);
        fault("0,,", 2);
        fault("0;1", 1);
        fault("01.2", 2);
        fault("0h1;", 3);
        fault("0H1", 1);
        fault("0123x", 4);
        fault("0123  x", 6);
        fault("0>1", 1);
    }

    @Says("1 to 4 COATS with , between:")
    static void promise9FaultFifthCoat() {
        fault("0,1,2,3,", 7);
        fault("0,1,2,3,4", 7);
        fault("0,1,2,3h1,4", 9);
        fault("0,1,2,3 , 4", 8);
        fault("0123,1230,2301,3012,", 19);
    }

    @Says("(blanks are passed over, but counted)")
    static void promise9FaultBehindBlanks() {
        fault("  8", 2);
        fault("  0123  h  3  ,  8", 17);
        fault("0,1,2,3   x", 10);
        fault(" ".repeat(99) + "x", 99);
        fault("0" + " ".repeat(98) + ",", 100);
        fault("0,1" + " ".repeat(96) + "1", 99);
    }

    @Says("THE TAPE, which is empty then (whatever is answered), is a SCHOOL:")
    static void promise9TapeIsEmptyThen() {
        CoatPockets x = Due.of("01");
        Due.due("type behind a school", x.type('7', 1), 1);
        Due.due("school()", x.school(), 1);
        Due.due("school() of nothing", x.school(), -20);
        Due.due("of(0, 0)", x.of(0, 0), 7);
        Due.type(x, "01x");
        Due.due("school() of a fault", x.school(), -22);
        Due.due("day() behind it", x.day(), -20);
        Due.due("type behind it", x.type('b', 1), 1);
        Due.due("day()", x.day(), 1);
    }

    @Says("FULL: 100.")
    static void promise9FullTape() {
        CoatPockets x = Due.of(" ".repeat(98) + "54");
        Due.coat("of 54", x, 0, 5, 2, 0, 0, 0, 5, 4, -4, -4);
        Due.due("school of a hundred with a fault", Due.school(x, "5".repeat(100)), -21);
        Due.due("of(0, 1)", x.of(0, 1), 2);
    }

    @Says("in place of all COATS; THINGS in POCKETS, in LININGS are in the HANDS of BOY 0.")
    static void promise9ThingsOfTheOldCoats() {
        CoatPockets x = Due.of("10h3,1,1,1h3", 1, 0, 1, 2, 3, 0, 0);
        x.thing(2, 6);
        Due.due("a day", Due.day(x, "p0>0;p1>0;p2>1;p3>2;p4>3"), 5);
        x.seed(0);
        Due.due("bell()", x.bell(), 2);
        Due.places("ahead", x, 20, 30, 11, 13, 23, 1, 6);
        Due.due("school", Due.school(x, "54"), 1);
        Due.places("behind", x, 0, 30, 0, 0, 0, 1, 6);
        Due.due("it stays read", x.told(2, 1), 2);
        Due.due("it stays eaten", x.told(1, 2), 1);
        Due.due("the bells stay", x.count(2), 1);
        Due.due("nothing in pockets", x.count(3), 0);
        Due.due("nothing in linings", x.count(4), 0);
        Due.due("the draw stays", x.seed(1), 1406932606);
    }

    @Says("THINGS in POCKETS, in LININGS are in the HANDS of BOY 0.")
    static void promise9ThingsOfEachOldCoat() {
        for (int c = 0; c < 4; c++) {
            CoatPockets x = Due.of("5h3,5h3,5h3,5h3", 5, 0, 0, 0);
            x.put(0, c);
            x.seed(0);
            Due.due("bell()", x.bell(), 1);
            x.put(1, c);
            Due.places("ahead", x, 20 + c, 10 + c, 5);
            Due.due("school", Due.school(x, "5,5,5,5"), 4);
            Due.places("behind", x, 0, 0, 5);
        }
    }

    @Says("the first of it WEARS the COAT at first")
    static void promise9FirstWearsAtFirst() {
        CoatPockets x = Due.of("012,3456");
        for (int k = 0; k < 5; k++) {
            x.bell();
        }
        Due.due("of(0, 0) ahead", x.of(0, 0), 2);
        Due.due("of(1, 0) ahead", x.of(1, 0), 4);
        Due.school(x, "012,3456");
        Due.due("of(0, 0)", x.of(0, 0), 0);
        Due.due("of(1, 0)", x.of(1, 0), 3);
    }

    @Says("A FAULT (those told stay).")
    static void promise9FaultInTheLastCoatLeavesAll() {
        fault("01h1,23h3,45,7h", 15);
        fault("01h1,23h3,45,7h1,", 16);
        fault("7,6,5,4 4", 8);
    }
}
