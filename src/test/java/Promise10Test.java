/** Promise 10: day. */
final class Promise10Test {
    public static void main(String[] args) throws ReflectiveOperationException {
        Due.run(Promise10Test.class);
    }

    /** Two coats and two things; a fault leaves all undone, and the tape empty. */
    private static void fault(String text, int place) {
        CoatPockets x = Due.of("01,1", 0, 2, 0);
        String was = Due.seen(x);
        Due.due("day \"" + text + "\"", Due.day(x, text), -20 - place);
        Due.unchanged("day \"" + text + "\"", x, was);
        Due.due("the tape is empty behind \"" + text + "\"", x.type('b', 1), 1);
        Due.due("day() of b", x.day(), 1);
    }

    @Says("A DAY is a TEXT of acts, one at least, with ; between:")
    static void promise10OneAct() {
        CoatPockets x = Due.of("01", 0, 0);
        Due.due("p0>0", Due.day(x, "p0>0"), 1);
        Due.due("where(0)", x.where(0), 10);
        Due.due("b", Due.day(x, "b"), 1);
        Due.due("count(2)", x.count(2), 1);
        Due.due("t0>0", Due.day(x, "t0>0"), 1);
        Due.due("where(0)", x.where(0), 1);
        Due.due("s0", Due.day(x, "s0"), 1);
    }

    @Says({"p, t each with a digit (THING), > and a digit (COAT): TO PUT (by who WEARS it), TO TAKE (likewise);",
        "s and a digit (COAT): TO SEARCH;", "g, a digit (THING), > and a digit (BOY): TO GIVE (by whose HANDS it is in);",
        "b: a BELL. They are done one behind the other;"})
    static void promise10EachAct() {
        CoatPockets x = Due.of("01,23h3,3,3", 0, 0, 0, 0, 0, 0, 0, 0, 2);
        Due.due("give, put, take", Due.day(x, "g7>2;p7>1;t7>1;g7>3;p7>3;b"), 6);
        Due.due("where(7)", x.where(7), 13);
        Due.due("told(7, 1)", x.told(7, 1), 12);
        x.seed(0);
        Due.due("take, put, fall, search", Due.day(x, "t7>3;p7>1;b;s1"), 4);
        Due.due("where(7) out of a lining", x.where(7), 11);
        Due.due("count(2)", x.count(2), 2);
        Due.due("the draw", x.seed(1), 12345);
    }

    @Says("b: a BELL.")
    static void promise10FiftyActs() {
        CoatPockets x = Due.of("012");
        Due.due("fifty bells", Due.day(x, "b;".repeat(49) + "b"), 50);
        Due.due("count(2)", x.count(2), 50);
        Due.due("of(0, 0)", x.of(0, 0), 2);
        Due.due("fifty bells and a blank", Due.day(x, "b;".repeat(49) + "b "), 50);
        Due.due("count(2)", x.count(2), 100);
        Due.due("fifty times ; at the end", Due.day(x, "b;".repeat(50)), -120);
        Due.due("count(2)", x.count(2), 100);
    }

    @Says("(blanks are passed over, but counted)")
    static void promise10BlanksAnywhere() {
        CoatPockets x = Due.of("01", 0, 0);
        Due.due("with blanks", Due.day(x, "  p 0  > 0 ;  b;t 0 >0 ; s  0 ;g 0> 1  "), 4);
        Due.due("where(0)", x.where(0), 1);
        Due.due("fifty, ninety-nine blanks", Due.day(x, " ".repeat(99) + "b"), 1);
    }

    @Says({"the first that is refused ends it (it is not done).", "is a DAY: how many acts are done."})
    static void promise10FirstRefusedEndsIt() {
        CoatPockets x = Due.of("01,1", 0, 0, 0);
        Due.due("a put is refused", Due.day(x, "b;p0>0;b;b"), 1);
        Due.due("count(2)", x.count(2), 1);
        Due.due("a take is refused", Due.day(x, "b;b;t0>0;b"), 2);
        Due.due("count(2)", x.count(2), 3);
        Due.due("a give is refused", Due.day(x, "b;b;b;g0>0;b"), 3);
        Due.due("count(2)", x.count(2), 6);
        Due.due("the last is refused", Due.day(x, "b;s0;s1;p0>1"), 3);
        Due.due("count(2)", x.count(2), 7);
        Due.places("behind all", x, 0, 0);
    }

    @Says("the first that is refused ends it (it is not done).")
    static void promise10RefusedAtOnce() {
        CoatPockets x = Due.of("01,1", 0, 0, 0);
        String was = Due.seen(x);
        Due.due("p0>1", Due.day(x, "p0>1;b;p0>0"), 0);
        Due.due("t1>0", Due.day(x, "t1>0;b"), 0);
        Due.due("g0>0", Due.day(x, "g0>0"), 0);
        Due.due("g0>7: he wears none", Due.day(x, "g0>7;b"), 0);
        Due.unchanged("refused ones", x, was);
    }

    @Says("the first that is refused ends it (it is not done).")
    static void promise10SearchingIsNeverRefused() {
        Due.due("empty linings", Due.day(Due.of("0,1,2,3"), "s0;s1;s2;s3;s0"), 5);
    }

    @Says("one at least")
    static void promise10FaultOfNothingAtAll() {
        fault("", 0);
        fault(" ", 1);
        fault("    ", 4);
        fault(" ".repeat(100), 100);
    }

    @Says("one at least, with ; between:")
    static void promise10FaultBetween() {
        fault(";", 0);
        fault(";b", 0);
        fault("b;", 2);
        fault("b; ", 3);
        fault("b;;b", 2);
        fault("bb", 1);
        fault("b b", 2);
        fault("b,b", 1);
        fault("b0", 1);
        fault("s0s1", 2);
        fault("p0>0;", 5);
        fault("p0>00", 4);
        fault("g0>1p1>0", 4);
        fault("t0>0 1", 5);
    }

    @Says("FAULTS: -20 less the place of the first byte (blanks are passed over, but counted) that can't stand there")
    static void promise10FaultNoAct() {
        String[] none = {"x", "0", "B", "P0>0", "h", ">", "~", ",", "a", "q0>0", "o", "u", "f", "r"};
        for (String text : none) {
            fault(text, 0);
            fault("b; " + text, 3);
        }
        fault("p1>0;p0>0;g1>7;t1>1;s1;s0;b;b;c", 30);
    }

    @Says("p, t each with a digit (THING), > and a digit (COAT)")
    static void promise10FaultInPutAndTake() {
        for (String act : new String[] {"p", "t"}) {
            fault(act, 1);
            fault(act + "  ", 3);
            fault(act + "x", 1);
            fault(act + ">0", 1);
            fault(act + "0", 2);
            fault(act + "0 ", 3);
            fault(act + "0-0", 2);
            fault(act + "00", 2);
            fault(act + "0>", 3);
            fault(act + "0>;", 3);
            fault(act + "0>>", 3);
            fault(act + "/>0", 1);
            fault(act + "0>/", 3);
            fault(act + "0=0", 2);
        }
    }

    @Says("s and a digit (COAT): TO SEARCH;")
    static void promise10FaultInSearch() {
        fault("s", 1);
        fault("s ", 2);
        fault("s>0", 1);
        fault("sb", 1);
        fault("s0>0", 2);
        fault("s/", 1);
    }

    @Says("g, a digit (THING), > and a digit (BOY): TO GIVE")
    static void promise10FaultInGive() {
        fault("g", 1);
        fault("g0", 2);
        fault("g0>", 3);
        fault("g0>8", 3);
        fault("g0>9", 3);
        fault("g0>/", 3);
        fault("g0>:", 3);
        fault("g 0 > 8", 6);
    }

    @Says("a THING, a COAT that is not there;")
    static void promise10FaultNoSuchThing() {
        fault("p2>0", 1);
        fault("t2>0", 1);
        fault("g2>0", 1);
        fault("p7>0", 1);
        fault("p8>0", 1);
        fault("p9>0", 1);
        fault("p 2>9", 2);
        CoatPockets x = Due.of("0");
        Due.due("no things", Due.day(x, "p0>0"), -21);
        Due.due("no things", Due.day(x, "g0>0"), -21);
        x.thing(0, 0);
        Due.due("one thing", Due.day(x, "p0>0"), 1);
    }

    @Says("a THING, a COAT that is not there;")
    static void promise10FaultNoSuchCoat() {
        fault("p0>2", 3);
        fault("t0>2", 3);
        fault("s2", 1);
        fault("s3", 1);
        fault("s4", 1);
        fault("p0>7", 3);
        fault("p0>8", 3);
        fault("p 0 > 2", 6);
        CoatPockets x = new CoatPockets();
        x.thing(0, 0);
        Due.due("no coats", Due.day(x, "p0>0"), -23);
        Due.due("no coats", Due.day(x, "s0"), -21);
        Due.due("a bell without coats", Due.day(x, "b"), 1);
    }

    @Says("a THING, a COAT that is not there;")
    static void promise10LastThingLastCoatLastBoy() {
        CoatPockets x = Due.of("0,0,0,70", 7, 0, 0, 0, 0, 0, 0, 0, 0);
        Due.due("the last of each", Due.day(x, "p7>3;t7>3;s3;b;b;g7>0;p7>2"), 7);
        Due.due("where(7)", x.where(7), 12);
        Due.due("to the last boy", Due.day(x, "t7>2;g7>7"), 2);
        Due.due("where(7)", x.where(7), 7);
        Due.due("s4", Due.day(x, "s4"), -21);
        Due.due("p8>0", Due.day(x, "p8>0"), -21);
    }

    @Says("A FAULT (nothing is done).")
    static void promise10FaultBehindGoodActs() {
        fault("p0>0;b;b;x", 9);
        fault("b;b;b;p0>2", 9);
        fault("p0>0;b;t0>0;", 12);
    }

    @Says("A FAULT (nothing is done).")
    static void promise10FaultBehindARefusedAct() {
        fault("p0>1;x", 5);
        fault("t0>0;b;s2", 8);
        fault("g0>0;", 5);
    }

    @Says("THE TAPE, which is empty then (whatever is answered), is a DAY:")
    static void promise10TapeIsEmptyThen() {
        CoatPockets x = Due.of("01", 0, 0);
        Due.due("b;b", Due.day(x, "b;b"), 2);
        Due.due("day() of nothing", x.day(), -20);
        Due.due("refused at once", Due.day(x, "t0>0"), 0);
        Due.due("day() of nothing", x.day(), -20);
        Due.due("a fault", Due.day(x, "bx"), -21);
        Due.due("school() of nothing", x.school(), -20);
        Due.due("type", x.type('b', 1), 1);
        Due.due("count(2)", x.count(2), 2);
    }

    /** It takes more than 512 calls, behind which all is free; that it ends there is looked at all the same. */
    @Says("THE BELLS are counted (9999 at most).")
    static void promise10BellsAtTheMost() {
        CoatPockets x = Due.of("01");
        for (int k = 0; k < 199; k++) {
            Due.due("fifty bells", Due.day(x, "b;".repeat(49) + "b"), 50);
        }
        Due.due("forty-nine of fifty", Due.day(x, "b;".repeat(49) + "b"), 49);
        Due.due("count(2)", x.count(2), 9999);
        Due.due("s0;b;s0", Due.day(x, "s0;b;s0"), 1);
    }
}
