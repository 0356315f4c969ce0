/** Promise 18: soonest. */
final class Promise18Test {
    public static void main(String[] args) throws ReflectiveOperationException {
        Due.run(Promise18Test.class);
    }

    private static void soonest(CoatPockets x, int from, int to, int thieves, int bells, int via) {
        String call = "soonest(" + from + ", " + to + ", " + thieves + ", ";
        Due.due(call + "0)", x.soonest(from, to, thieves, 0), bells);
        Due.due(call + "1)", x.soonest(from, to, thieves, 1), via);
    }

    @Says({"SOONEST from a BOY to a BOY: the fewest BELLS (0 .. 24) in which the second is in REACH;", "SOONEST (0), VIA (1)"})
    static void promise18FewestBells() {
        CoatPockets x = Due.of("0123,4");
        soonest(x, 0, 1, 0, 1, 1);
        soonest(x, 0, 2, 0, 2, 1);
        soonest(x, 0, 3, 0, 3, 1);
        soonest(x, 3, 0, 0, 4, 1);
        soonest(x, 3, 2, 0, 6, 1);
        soonest(x, 2, 1, 0, 5, 1);
    }

    @Says("from a BOY to himself the empty one")
    static void promise18ToHimself() {
        CoatPockets x = Due.of("01,10");
        for (int boy = 0; boy < 8; boy++) {
            soonest(x, boy, boy, 0, 0, 0);
            soonest(x, boy, boy, 255, 0, 0);
        }
        soonest(new CoatPockets(), 7, 7, 0, 0, 0);
        // What came to another one ahead of it does not count.
        soonest(x, 0, 1, 0, 1, 1);
        soonest(x, 0, 0, 0, 0, 0);
        soonest(x, 1, 1, 0, 0, 0);
    }

    @Says("NONE: not in 24 BELLS.")
    static void promise18NoneNever() {
        CoatPockets x = Due.of("01,23");
        soonest(x, 0, 2, 0, -4, -4);
        soonest(x, 0, 7, 0, -4, -4);
        soonest(x, 7, 0, 0, -4, -4);
        soonest(Due.of("0,1"), 0, 1, 0, -4, -4);
        soonest(Due.of("01h1"), 0, 1, 0, -4, -4);
        soonest(new CoatPockets(), 0, 1, 0, -4, -4);
    }

    @Says("NONE: not in 24 BELLS.")
    static void promise18NonePastThieves() {
        CoatPockets x = Due.of("012");
        soonest(x, 0, 2, 2, -4, -4);
        soonest(x, 0, 1, 2, -4, -4);
        soonest(x, 0, 2, 255, -4, -4);
        soonest(x, 0, 2, 4, -4, -4);
        soonest(x, 0, 1, 4, 1, 1);
    }

    @Says("in it this BOY counts for nothing")
    static void promise18HimselfIsNoThief() {
        CoatPockets x = Due.of("10");
        soonest(x, 0, 1, 1, 2, 1);
        soonest(x, 1, 0, 2, 1, 1);
        // The one to whom it is to come is a thief like any other.
        soonest(x, 0, 1, 3, -4, -4);
    }

    @Says("the fewest BELLS (0 .. 24) in which the second is in REACH;")
    static void promise18LongWays() {
        CoatPockets x = Due.of("3574,4350,721,216");
        soonest(x, 0, 6, 0, 17, 8);
        CoatPockets y = Due.of("5263,2715,4630,3654");
        Due.due("past boy 6", y.soonest(0, 1, 64, 0), 18);
        Due.due("a bell less", y.reach(0, 17, 64) >> 1 & 1, 0);
        Due.due("as many bells", y.reach(0, 18, 64) >> 1 & 1, 1);
        soonest(Due.of("61,2534,5312,740"), 0, 6, 0, 16, 1);
    }

    @Says({"VIA: COATS he WEARS then", "(a set;", "Sets are bits."})
    static void promise18ViaTheFirstAndTheLastCoat() {
        soonest(Due.of("01,2,3,01"), 0, 1, 0, 1, 9);
        soonest(Due.of("01,01,01,01"), 0, 1, 0, 1, 15);
        soonest(Due.of("2,3,4,01"), 0, 1, 0, 1, 8);
    }

    @Says("VIA: COATS he WEARS then")
    static void promise18ViaNotByAHole() {
        CoatPockets x = Due.of("01,01h1,01h2,01h3");
        soonest(x, 0, 1, 0, 1, 1);
        x.hole(1, 0);
        soonest(x, 0, 1, 0, 1, 3);
    }

    @Says("in whose POCKETS it can be then")
    static void promise18ViaNotByWhatItDoesNotCome() {
        // He wears the second coat too, but in its pocket it can't be.
        soonest(Due.of("02,32"), 0, 2, 0, 1, 1);
        // It could be in the pocket of a coat that another wears then.
        soonest(Due.of("02,03"), 0, 2, 0, 1, 1);
        // A thief wore the second coat on its way.
        soonest(Due.of("042,012"), 0, 2, 2, 2, 1);
        soonest(Due.of("042,012"), 0, 2, 0, 2, 3);
    }

    @Says("without its having been in his HANDS")
    static void promise18ViaNotByHisOwnHands() {
        // Behind the bell he can put it from the first coat into the second; that is no way to him.
        soonest(Due.of("02,2"), 0, 2, 0, 1, 1);
        soonest(Due.of("02,2,32,2"), 0, 2, 0, 1, 1);
    }

    @Says("SOONEST (0), VIA (1), past THIEVES. BAD;")
    static void promise18BadBoys() {
        CoatPockets x = Due.of("01");
        int[] none = {-1, 8, 9, Integer.MIN_VALUE, Integer.MAX_VALUE};
        for (int boy : none) {
            soonest(x, boy, 1, 0, -1, -1);
            soonest(x, 0, boy, 0, -1, -1);
            soonest(x, boy, boy, 0, -1, -1);
        }
    }

    @Says("past THIEVES. BAD;")
    static void promise18BadThieves() {
        CoatPockets x = Due.of("01");
        int[] none = {-1, 256, 257, Integer.MIN_VALUE, Integer.MAX_VALUE};
        for (int thieves : none) {
            soonest(x, 0, 1, thieves, -1, -1);
            soonest(x, 0, 0, thieves, -1, -1);
        }
        soonest(x, 0, 1, 253, 1, 1);
    }

    @Says("SOONEST (0), VIA (1), past THIEVES. BAD;")
    static void promise18BadWhat() {
        CoatPockets x = Due.of("01");
        int[] none = {-1, 2, 3, Integer.MIN_VALUE, Integer.MAX_VALUE};
        for (int what : none) {
            Due.due("soonest(0, 1, 0, " + what + ")", x.soonest(0, 1, 0, what), -1);
        }
    }

    @Says("BAD; NONE: not in 24 BELLS.")
    static void promise18BadAheadOfNone() {
        CoatPockets x = Due.of("0,1");
        Due.due("a bad what", x.soonest(0, 1, 0, 2), -1);
        Due.due("bad thieves", x.soonest(0, 1, 256, 0), -1);
        Due.due("a bad boy", x.soonest(0, 8, 0, 0), -1);
        Due.due("none of these", x.soonest(0, 1, 0, 1), -4);
    }

    @Says("the fewest BELLS (0 .. 24) in which the second is in REACH;")
    static void promise18FromWhoWearsThemNow() {
        CoatPockets x = Due.of("012,13");
        x.bell();
        soonest(x, 1, 2, 0, 1, 1);
        soonest(x, 1, 0, 0, 2, 1);
        soonest(x, 1, 3, 0, 2, 2);
        String was = Due.seen(x);
        x.soonest(0, 2, 0, 0);
        x.soonest(0, 2, 2, 1);
        x.soonest(0, 2, 2, 2);
        Due.unchanged("soonest", x, was);
    }

    @Says({"in whose POCKETS it can be then", "without its having been in his HANDS"})
    static void promise18AsByTheActsThemselves() {
        String[] schools = {"01,12,201h1,013", "0123,03,34,41", "012,120,102,210", "0314,25,513,40", "10,21,32,43"};
        for (int s = 0; s < schools.length * 7; s++) {
            String school = schools[s % schools.length];
            int to = 1 + s % 7;
            int thieves = s % 3 == 0 ? 0 : 1 << (to + s) % 8;
            Tries all = new Tries(school, 0, 0, thieves, Tries.NOBODY, 24);
            int bells = 0;
            while (bells <= 24 && !all.has(to, bells)) {
                bells++;
            }
            if (bells > 24) {
                soonest(Due.of(school), 0, to, thieves, -4, -4);
                continue;
            }
            soonest(Due.of(school), 0, to, thieves, bells, via(school, thieves, to, bells));
        }
    }

    private static int via(String school, int thieves, int to, int bells) {
        Tries past = new Tries(school, 0, 0, thieves, to, bells);
        CoatPockets x = Due.of(school);
        for (int k = 0; k < bells; k++) {
            x.bell();
        }
        int via = 0;
        for (int c = 0; c < x.count(0); c++) {
            via |= past.has(10 + c, bells) && x.of(c, 0) == to ? 1 << c : 0;
        }
        return via;
    }
}
