/** Promise 17: reach. */
final class Promise17Test {
    public static void main(String[] args) throws ReflectiveOperationException {
        Due.run(Promise17Test.class);
    }

    private static void reach(CoatPockets x, int boy, int n, int thieves, int want) {
        Due.due("reach(" + boy + ", " + n + ", " + thieves + ")", x.reach(boy, n, thieves), want);
    }

    @Says({"REACH from a BOY in n BELLS (0 .. 24)", "all BOYS in whose HANDS a KNIFE that is in his can be then"})
    static void promise17NoBells() {
        CoatPockets x = Due.of("01,12,0");
        for (int boy = 0; boy < 8; boy++) {
            reach(x, boy, 0, 0, 1 << boy);
        }
    }

    @Says("REACH from a BOY in n BELLS (0 .. 24)")
    static void promise17EachNumberOfBells() {
        CoatPockets x = Due.of("01,12,23,34");
        int[] want = {1, 3, 3, 7, 7, 15, 15, 31, 31};
        for (int n = 0; n <= 24; n++) {
            reach(x, 0, n, 0, want[Math.min(n, 8)]);
        }
        reach(x, 4, 24, 0, 31);
    }

    @Says("REACH. BAD.")
    static void promise17BadBells() {
        CoatPockets x = Due.of("01,12");
        int[] none = {-1, 25, 26, Integer.MIN_VALUE, Integer.MAX_VALUE};
        for (int n : none) {
            reach(x, 0, n, 0, -1);
        }
        reach(x, 0, 24, 0, 7);
    }

    @Says("REACH. BAD.")
    static void promise17BadBoy() {
        CoatPockets x = Due.of("01,12");
        int[] none = {-1, 8, 9, 32, Integer.MIN_VALUE, Integer.MAX_VALUE};
        for (int boy : none) {
            reach(x, boy, 1, 0, -1);
            reach(x, boy, 0, 255, -1);
        }
        reach(x, 7, 1, 0, 128);
    }

    @Says({"REACH. BAD.", "past THIEVES (a set of BOYS;"})
    static void promise17BadThieves() {
        CoatPockets x = Due.of("01,12");
        int[] none = {-1, -2, 256, 257, 512, Integer.MIN_VALUE, Integer.MAX_VALUE};
        for (int thieves : none) {
            reach(x, 0, 1, thieves, -1);
        }
        reach(x, 0, 1, 255, 1);
        reach(x, 0, 1, 128, 3);
    }

    @Says("all BOYS in whose HANDS a KNIFE that is in his can be then")
    static void promise17NoCoats() {
        for (int boy = 0; boy < 8; boy++) {
            reach(new CoatPockets(), boy, 0, 0, 1 << boy);
            reach(new CoatPockets(), boy, 24, 255, 1 << boy);
        }
    }

    @Says("all BOYS in whose HANDS a KNIFE that is in his can be then")
    static void promise17WhoIsOfNoTurn() {
        CoatPockets x = Due.of("0123,3456");
        reach(x, 7, 24, 0, 128);
        reach(x, 0, 24, 0, 127);
        reach(Due.of("7"), 7, 24, 0, 128);
    }

    @Says("by as much PUTTING and TAKING as they like ahead of")
    static void promise17PutAheadOfTheFirstBell() {
        reach(Due.of("01"), 0, 1, 0, 3);
        CoatPockets x = Due.of("01");
        x.bell();
        reach(x, 0, 1, 0, 1);
        reach(x, 0, 2, 0, 3);
    }

    @Says("between and behind the BELLS")
    static void promise17TakenAndPutBetweenBells() {
        // At the first bell boy 1 takes it from one coat and puts it into the other.
        CoatPockets x = Due.of("01,21");
        reach(x, 0, 1, 0, 3);
        reach(x, 0, 2, 0, 7);
        // At the first bell boy 1 takes it, at the second he puts it elsewhere, at the third boy 2 has it.
        CoatPockets y = Due.of("01,3412");
        reach(y, 0, 2, 0, 3);
        reach(y, 0, 3, 0, 7);
    }

    @Says("by as much PUTTING and TAKING as they like")
    static void promise17ByManyCoatsAtOneBell() {
        // Boy 1 wears all but the first coat at the first bell; each of these is another's at the second.
        CoatPockets x = Due.of("01,21,31,41");
        reach(x, 0, 1, 0, 3);
        reach(x, 0, 2, 0, 31);
    }

    @Says("without GIVING and SEARCHING:")
    static void promise17WithoutGiving() {
        CoatPockets x = Due.of("0,1,2");
        reach(x, 0, 0, 0, 1);
        reach(x, 0, 24, 0, 1);
    }

    @Says({"without GIVING and SEARCHING:", "over a BELL it may lie in a POCKET without a HOLE alone;"})
    static void promise17NotByAHole() {
        for (int hole = 1; hole <= 3; hole++) {
            CoatPockets x = Due.of("01h" + hole + ",02");
            x.seed(3);
            reach(x, 0, 24, 0, 5);
            Due.due("hole(0, 0)", x.hole(0, 0), hole);
            reach(x, 0, 24, 0, 7);
            x.hole(1, hole);
            reach(x, 0, 24, 0, 3);
        }
    }

    @Says("in a POCKET of a COAT that a THIEF WEARS it is lost")
    static void promise17LostAtAThief() {
        CoatPockets x = Due.of("012");
        reach(x, 0, 24, 0, 7);
        reach(x, 0, 24, 2, 1);
        reach(x, 0, 2, 4, 3);
        reach(x, 0, 24, 4, 3);
        reach(x, 1, 24, 4, 2);
        reach(x, 1, 24, 1, 6);
        reach(x, 0, 24, 6, 1);
    }

    @Says("where it lies as a THIEF comes to WEAR it, it is gone).")
    static void promise17GoneWhereAThiefComes() {
        // Boy 0 puts it ahead of the thief and behind him: behind him it comes to 3.
        CoatPockets x = Due.of("0213");
        reach(x, 0, 24, 2, 5);
        reach(x, 3, 24, 2, 13);
        reach(x, 3, 3, 2, 8);
        reach(x, 3, 4, 2, 9);
        CoatPockets y = Due.of("01,10");
        reach(y, 0, 24, 2, 1);
        reach(y, 1, 24, 1, 2);
    }

    @Says("(nobody PUTS it there;")
    static void promise17NobodyPutsItToAThief() {
        // The thief wears it now and at each second bell; who wears it between has it taken from him.
        CoatPockets x = Due.of("10");
        reach(x, 0, 24, 2, 1);
        // Of two coats that boy 0 wears, only the one that no thief comes to wear hands it on.
        reach(Due.of("01,02"), 0, 24, 2, 5);
    }

    @Says("(a set of BOYS; in it this BOY counts for nothing)")
    static void promise17HimselfIsNoThief() {
        CoatPockets x = Due.of("012");
        reach(x, 0, 2, 1, 7);
        reach(x, 0, 2, 3, 1);
        reach(x, 0, 24, 255, 1);
        reach(x, 2, 24, 4, 7);
        reach(Due.of("7012"), 7, 24, 128, 135);
    }

    @Says("REACH from a BOY in n BELLS (0 .. 24)")
    static void promise17FromWhoWearsThemNow() {
        CoatPockets x = Due.of("0123");
        x.bell();
        x.bell();
        reach(x, 2, 1, 0, 12);
        reach(x, 2, 2, 0, 13);
        reach(x, 1, 2, 0, 2);
        reach(x, 1, 3, 0, 2);
        reach(x, 1, 4, 0, 6);
        String was = Due.seen(x);
        x.reach(0, 24, 0);
        x.reach(0, 24, 2);
        x.reach(0, 25, 0);
        Due.unchanged("reach", x, was);
    }

    @Says("by as much PUTTING and TAKING as they like")
    static void promise17ByWhatBellsAreAtTheMost() {
        // Seventeen bells are the longest way that was found by trying turns of all kinds.
        CoatPockets x = Due.of("3574,4350,721,216");
        reach(x, 0, 16, 0, 255 & ~(1 << 6));
        reach(x, 0, 17, 0, 255);
    }

    @Says({"by as much PUTTING and TAKING as they like ahead of", "over a BELL it may lie in a POCKET without a HOLE alone;",
        "in a POCKET of a COAT that a THIEF WEARS it is lost"})
    static void promise17AsByTheActsThemselves() {
        String[] schools = {"01,12h1,23", "0123,3h2,34,41", "012,120h3,27,72", "0314,25,513h1,40", "10,21,32,43", "6,60,0h1,05"};
        for (int s = 0; s < schools.length * 4; s++) {
            String school = schools[s % schools.length];
            int ahead = s % 5;
            int from = s % 3;
            int thieves = s % 4 == 0 ? 0 : 1 << s % 8 | 1 << s % 7;
            Tries tries = new Tries(school, ahead, from, thieves, Tries.NOBODY, 12);
            CoatPockets x = Due.of(school);
            for (int k = 0; k < ahead; k++) {
                x.bell();
            }
            for (int n = 0; n <= 12; n++) {
                reach(x, from, n, thieves, tries.hands(n));
            }
        }
    }
}
