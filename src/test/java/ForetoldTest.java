/** Promises 18 to 25: what is where ahead, where to walk, where the clerk should stand; each sentence by itself. */
public final class ForetoldTest {
    private static final int NONE = FogSheets.NONE, BAD = FogSheets.BAD, STATE = FogSheets.STATE;
    private static final int LEAST = Integer.MIN_VALUE, MOST = Integer.MAX_VALUE;

    /** A sheet that goes up a cell an hour, a haar that goes down, an odd one beside the walker. */
    private static final String THREE = "e12,6,5,13;g3;s3,3,6;h9,3,5;o6,1,2;";
    /** An odd one, 5, 6, 7, 8, 7, 6 thick, and so on around. */
    private static final String TIDE = "e6,0,0,0;g2;g2;g2;g0;g0;g0;o0,1,5;";

    public static void main(String[] args) {
        Cases.run(ForetoldTest.class);
    }

    private static long[] ahead(FogSheets x, int sheet, int n) {
        return new long[] {x.ahead(sheet, n, 0), x.ahead(sheet, n, 1), x.ahead(sheet, n, 2)};
    }

    // ---- 18: ahead

    @Says({"AHEAD by n HOURS (0 to 60) of a SHEET: AT (", "AHEAD: AT (what = 0;", "THICK (1), NUMBER (2)."})
    static void p18_behindSomeHours() {
        FogSheets x = Tapes.estuary(THREE);
        Due.are(ahead(x, 0, 1), 4, 6, 1);
        Due.are(ahead(x, 1, 1), 8, 4, 0);
        Due.are(ahead(x, 2, 1), 6, 1, 2);
        Due.are(ahead(x, 0, 3), 6, 5, 1);
        Due.are(ahead(x, 1, 3), 6, 2, 3);
    }

    @Says("AHEAD by n HOURS (0 to 60)")
    static void p18_behindNoHours() {
        Due.are(ahead(Tapes.estuary(THREE), 0, 0), 3, 6, 0);
        Due.are(ahead(Tapes.estuary(THREE, 1), 0, 0), 4, 6, 1);
    }

    @Says("AHEAD by n HOURS (0 to 60)")
    static void p18_behind60Hours() {
        FogSheets x = Tapes.estuary(TIDE);
        Due.are(new long[] {x.ahead(0, 57, 1), x.ahead(0, 58, 1), x.ahead(0, 59, 1), x.ahead(0, 60, 1)}, 8, 7, 6, 5);
        Due.are(ahead(x, 0, 60), 0, 5, 0);
    }

    @Says({"(NONE: GONE); THICK", "NONE), THICK", "THICK (0: GONE)"})
    static void p18_goneThen() {
        FogSheets x = Tapes.estuary("e6,0,0,0;g2;w0,1,3;");
        Due.are(ahead(x, 0, 1), 0, 2, 0);
        Due.are(ahead(x, 0, 2), NONE, 0, 0);
        Due.are(ahead(x, 0, 60), NONE, 0, 0);
    }

    @Says("THICK (0: GONE)")
    static void p18_goneNow() {
        FogSheets x = Tapes.estuary("e6,0,0,15;g2;w0,1,2;", 2);
        Due.are(ahead(x, 0, 0), NONE, 0, 1);
        Due.are(ahead(x, 0, 9), NONE, 0, 1);
    }

    @Says("its NUMBER (0: none). OVER")
    static void p18_itsNumberThen() {
        FogSheets x = Tapes.estuary("e6,0,0,4;g2;h3,1,9;o0,1,9;");
        Due.are(new long[] {x.ahead(0, 2, 2), x.ahead(0, 3, 2), x.ahead(1, 2, 2), x.ahead(1, 3, 2)}, 0, 1, 0, 2);
    }

    @Says("AHEAD by n HOURS")
    static void p18_atBelow0() {
        Due.are(ahead(Tapes.estuary("e6,5,0,0;g1;s0,5,9;"), 0, 4), -4, 7, 0);
    }

    @Says("AHEAD by n HOURS (0 to 60)")
    static void p18_itGoesOnBeyondHour999() {
        FogSheets x = Tapes.estuary(TIDE, 999);
        Due.are(new long[] {x.ahead(0, 0, 1), x.ahead(0, 1, 1), x.ahead(0, 3, 1), x.ahead(0, 60, 1)}, 8, 7, 5, 8);
    }

    @Says("BAD.")
    static void p18_noSuchSheet() {
        FogSheets x = Tapes.estuary(THREE);
        Due.are(new long[] {x.ahead(-1, 0, 0), x.ahead(3, 0, 0), x.ahead(LEAST, 0, 0), x.ahead(MOST, 0, 0)},
            BAD, BAD, BAD, BAD);
        Due.is(new FogSheets().ahead(0, 0, 0), BAD);
    }

    @Says("BAD.")
    static void p18_notSoFar() {
        FogSheets x = Tapes.estuary(THREE);
        Due.are(new long[] {x.ahead(0, -1, 0), x.ahead(0, 61, 0), x.ahead(0, LEAST, 0), x.ahead(0, MOST, 0)},
            BAD, BAD, BAD, BAD);
    }

    @Says("BAD.")
    static void p18_noSuchWhat() {
        FogSheets x = Tapes.estuary(THREE);
        Due.are(new long[] {x.ahead(0, 0, -1), x.ahead(0, 0, 3), x.ahead(0, 0, LEAST), x.ahead(0, 0, MOST)},
            BAD, BAD, BAD, BAD);
    }

    @Says("FORETOLD (nothing changes).")
    static void p18_nothingChanges() {
        Sight.changesNothing(y -> {
            y.ahead(0, 60, 0);
            y.ahead(1, 9, 1);
            y.ahead(2, 9, 2);
        });
    }

    // ---- 19: over

    @Says({"OVER a CELL behind n HOURS (0 to 60). WHEN", "OVER a CELL."})
    static void p19_behindSomeHours() {
        FogSheets x = Tapes.estuary(THREE);
        Due.are(new long[] {x.over(6, 0), x.over(6, 1), x.over(6, 2), x.over(6, 3), x.over(6, 4)}, 2, 7, 5, 7, 1);
    }

    @Says("OVER a CELL behind n HOURS (0 to 60). WHEN")
    static void p19_behind60Hours() {
        FogSheets x = Tapes.estuary(TIDE);
        Due.are(new long[] {x.over(0, 57), x.over(0, 58), x.over(0, 59), x.over(0, 60), x.over(1, 60)}, 8, 7, 6, 5, 0);
    }

    @Says("OVER a CELL.")
    static void p19_atBothEnds() {
        FogSheets x = Tapes.estuary("e16,0,0,0;g4;s13,5,9;h1,5,8;");
        Due.are(new long[] {x.over(15, 0), x.over(15, 1), x.over(15, 2), x.over(0, 0), x.over(0, 1), x.over(0, 2)},
            9, 9, 0, 0, 7, 6);
    }

    @Says("BAD.")
    static void p19_noSuchCell() {
        FogSheets x = Tapes.estuary(THREE);
        Due.are(new long[] {x.over(-1, 0), x.over(12, 0), x.over(LEAST, 0), x.over(MOST, 0), x.over(11, 0)},
            BAD, BAD, BAD, BAD, 5);
        Due.is(new FogSheets().over(0, 0), BAD);
    }

    @Says("BAD.")
    static void p19_notSoFar() {
        FogSheets x = Tapes.estuary(THREE);
        Due.are(new long[] {x.over(0, -1), x.over(0, 61), x.over(0, LEAST), x.over(0, MOST)}, BAD, BAD, BAD, BAD);
    }

    @Says("FORETOLD (nothing changes).")
    static void p19_nothingChanges() {
        Sight.changesNothing(y -> {
            y.over(0, 60);
            y.over(6, 60);
            y.over(3, 9);
        });
    }

    // ---- 20: when

    @Says({"WHEN a SHEET is GONE, has a NUMBER: behind how many HOURS (0 to 60) first", "WHEN GONE (how = 0)"})
    static void p20_whenItIsGone() {
        FogSheets x = Tapes.estuary("e6,3,0,15;g2;s3,1,2;w5,1,1;h2,1,9;");
        Due.are(new long[] {x.when(0, 0), x.when(1, 0), x.when(2, 0)}, 4, 1, 3);
    }

    @Says("NUMBERED (1)")
    static void p20_whenItHasANumber() {
        FogSheets x = Tapes.estuary("e16,0,0,8;g2;h1,5,9;h7,1,9;o0,1,9;");
        Due.are(new long[] {x.when(0, 1), x.when(1, 1), x.when(2, 1)}, 4, NONE, 4);
        x.wake(15);
        Due.are(new long[] {x.when(0, 1), x.when(1, 1), x.when(2, 1)}, 1, 7, 1);
    }

    @Says("behind how many HOURS (0 to 60) first")
    static void p20_itIsSoNow() {
        FogSheets x = Tapes.estuary("e6,3,0,15;g2;s3,1,2;w5,1,1;", 1);
        Due.are(new long[] {x.when(1, 0), x.when(0, 1), x.when(0, 0)}, 0, 0, 3);
    }

    @Says("behind how many HOURS (0 to 60) first")
    static void p20_farAhead() {
        Due.is(Tapes.estuary("e6,0,0,0;g0;g0;g0;g2;g2;o0,1,9;").when(0, 0), 33);
        // None is gone later than that, unless never.
        Due.is(Tapes.estuary("e6,0,0,0;g0;g2;g0;g2;g0;o0,1,9;").when(0, 0), 41);
        Due.is(Tapes.estuary("e16,0,0,15;g2;h15,1,9;").when(0, 1), 15);
    }

    @Says({"first; NONE. FIRST", "NONE. BAD."})
    static void p20_never() {
        FogSheets x = Tapes.estuary("e6,3,0,15;g2;o0,1,9;w5,1,1;");
        Due.are(new long[] {x.when(0, 0), x.when(0, 1), x.when(1, 1)}, NONE, NONE, NONE);
        Due.is(Tapes.estuary("e6,0,0,0;g2;o0,1,9;").when(0, 1), NONE);
    }

    @Says("BAD.")
    static void p20_noSuchSheet() {
        FogSheets x = Tapes.estuary(THREE);
        Due.are(new long[] {x.when(-1, 0), x.when(3, 0), x.when(LEAST, 0), x.when(MOST, 0)}, BAD, BAD, BAD, BAD);
        Due.is(new FogSheets().when(0, 0), BAD);
    }

    @Says("BAD.")
    static void p20_noSuchHow() {
        FogSheets x = Tapes.estuary(THREE);
        Due.are(new long[] {x.when(0, -1), x.when(0, 2), x.when(0, LEAST), x.when(0, MOST)}, BAD, BAD, BAD, BAD);
    }

    @Says("FORETOLD (nothing changes).")
    static void p20_nothingChanges() {
        Sight.changesNothing(y -> {
            y.when(0, 0);
            y.when(1, 1);
            y.when(2, 0);
        });
    }

    // ---- 21: overlap

    private static void overlap(String text, int behind, int which) {
        FogSheets x = Tapes.estuary(text);
        Due.are(text, new long[] {x.overlap(0), x.overlap(1)}, behind, which);
    }

    @Says({"FIRST OVERLAP: behind how many HOURS (0 to 60) two OVERLAP first",
        "FIRST OVERLAP: behind how many (what = 0), which (1)"})
    static void p21_theFirst() {
        overlap(THREE, 1, 2);
        overlap("e6,0,0,0;g2;o0,1,9;o1,1,9;o5,1,9;h3,1,9;", 2, 13);
        overlap("e16,0,0,0;g2;o0,1,9;h15,1,9;", 15, 1);
    }

    @Says("behind how many HOURS (0 to 60) two OVERLAP first")
    static void p21_theyOverlapNow() {
        overlap("e6,0,0,0;g1;s0,3,9;o2,1,9;", 0, 1);
    }

    @Says("which (10 the lesser, and the other one;")
    static void p21_tenTheLesserAndTheOther() {
        overlap("e6,0,0,0;g2;o0,1,9;o1,1,9;o2,1,9;o3,1,9;o4,2,9;o5,1,9;", 0, 45);
        overlap("e6,0,0,0;g2;o5,1,9;o1,1,9;o2,1,9;o3,1,9;o4,1,9;o5,1,9;", 0, 5);
    }

    @Says("of several pairs the first); NONE.")
    static void p21_ofSeveralPairsTheFirst() {
        overlap("e6,0,0,0;g2;o3,1,9;o2,1,9;o2,1,9;o3,1,9;", 0, 3);
        overlap("e6,0,0,0;g2;o5,1,9;o2,1,9;o2,1,9;o2,1,9;", 0, 12);
        overlap("e6,0,0,0;g1;s0,3,9;o0,1,9;o5,1,9;s5,1,9;", 0, 1);
    }

    @Says("Two OVERLAP, if both are IN and lie on a CELL.")
    static void p21_besideIsNotOver() {
        overlap("e6,0,0,0;g2;o0,2,9;o2,2,9;o4,5,9;", NONE, NONE);
        overlap("e6,0,0,0;g2;o0,3,9;o2,2,9;o4,5,9;", 0, 1);
    }

    @Says("Two OVERLAP, if both are IN and lie on a CELL.")
    static void p21_oneThatIsGoneDoesNot() {
        overlap("e6,0,0,0;g2;w0,1,1;h1,1,9;", NONE, NONE);
        FogSheets x = Tapes.estuary("e6,0,0,0;g2;w0,1,1;o0,1,9;");
        Due.is(x.overlap(0), 0);
        x.hours(1);
        Due.are(new long[] {x.overlap(0), x.overlap(1)}, NONE, NONE);
    }

    @Says({"of several pairs the first); NONE.", "which (1); NONE."})
    static void p21_never() {
        overlap("e6,0,0,0;g2;o0,1,9;", NONE, NONE);
        overlap("e6,0,0,0;g2;o0,1,9;o1,1,9;", NONE, NONE);
        overlap("e6,0,0,0;g0;s4,1,9;b0,2,9;", NONE, NONE);
    }

    @Says("BAD;")
    static void p21_noSuchWhat() {
        FogSheets x = Tapes.estuary(THREE);
        Due.are(new long[] {x.overlap(-1), x.overlap(2), x.overlap(LEAST), x.overlap(MOST)}, BAD, BAD, BAD, BAD);
    }

    @Says("STATE: no ESTUARY (ahead of BAD).")
    static void p21_noEstuary() {
        FogSheets x = new FogSheets();
        Due.are(new long[] {x.overlap(0), x.overlap(1), x.overlap(2), x.overlap(-1)}, STATE, STATE, STATE, STATE);
    }

    @Says("FORETOLD (nothing changes).")
    static void p21_nothingChanges() {
        Sight.changesNothing(y -> {
            y.overlap(0);
            y.overlap(1);
        });
    }

    // ---- 22: walk

    private static long[] walk(FogSheets x, int n) {
        long[] walk = new long[n + 1];
        for (int k = -1; k < n; k++) {
            walk[k + 1] = x.walk(n, k);
        }
        return walk;
    }

    @Says({"WALK for n HOURS (1 to 6): ahead of each of them the walker goes one CELL down, stays, or goes one up",
        "how much; the CELL behind the k-th.", "WALK: how much (k = -1), the CELL behind the k-th (0 on;"})
    static void p22_theStepIsAheadOfTheHour() {
        FogSheets x = Tapes.estuary("e6,0,2,0;g3;s0,2,9;");
        Due.are(walk(x, 1), 0, 3);
        Due.are(walk(x, 2), 0, 3, 4);
    }

    @Says("(not beyond the ends): of all such rows that")
    static void p22_notBeyondTheLowerEnd() {
        Due.are(walk(Tapes.estuary("e6,0,0,0;g2;o0,2,9;"), 1), 9, 0);
        Due.are(walk(Tapes.estuary("e6,0,1,0;g2;o1,5,9;"), 2), 0, 0, 0);
    }

    @Says("(not beyond the ends): of all such rows that")
    static void p22_notBeyondTheUpperEnd() {
        Due.are(walk(Tapes.estuary("e6,0,5,0;g2;o4,2,9;"), 1), 9, 4);
        Due.are(walk(Tapes.estuary("e6,0,4,0;g2;o0,5,9;"), 2), 0, 5, 5);
        Due.are(walk(Tapes.estuary("e16,0,15,0;g2;o14,2,9;"), 2), 9, 14, 13);
    }

    @Says("by which OVER the walker, behind each, all together, is least")
    static void p22_allTogetherIsLeast() {
        Due.are(walk(Tapes.estuary("e6,0,0,0;g2;o0,4,9;o1,5,1;o0,1,2;"), 6), 54, 1, 2, 3, 4, 4, 4);
        Due.are(walk(Tapes.estuary("e6,0,0,0;g2;o0,4,9;o1,5,1;o0,1,2;"), 3), 36, 1, 1, 1);
    }

    @Says("of several the first (down ahead of staying, that ahead of up): how much;")
    static void p22_downAheadOfStaying() {
        FogSheets x = Tapes.estuary("e6,0,3,0;g2;o0,1,9;");
        Due.are(walk(x, 2), 0, 2, 1);
        Due.are(walk(x, 3), 0, 2, 1, 1);
    }

    @Says("of several the first (down ahead of staying, that ahead of up): how much;")
    static void p22_stayingAheadOfUp() {
        Due.are(walk(Tapes.estuary("e6,0,0,0;g2;o5,1,9;"), 3), 0, 0, 0, 0);
        Due.are(walk(Tapes.estuary("e6,0,2,0;g2;o1,1,9;"), 1), 0, 2);
    }

    @Says("WALK for n HOURS (1 to 6)")
    static void p22_from1To6() {
        FogSheets x = Tapes.estuary("e16,0,9,0;g2;o15,1,9;");
        Due.are(walk(x, 1), 0, 8);
        Due.are(walk(x, 6), 0, 8, 7, 6, 5, 4, 3);
        Due.are(walk(x, 1), 0, 8);
    }

    @Says("WALK for n HOURS (1 to 6)")
    static void p22_aShorterOneBehindALongerOne() {
        FogSheets x = Tapes.estuary("e6,0,0,0;g2;o0,4,9;o1,5,1;o0,1,2;");
        Due.are(new long[] {x.walk(6, -1), x.walk(5, -1), x.walk(3, -1), x.walk(1, -1)}, 54, 47, 36, 11);
    }

    @Says("NONE: not so many).")
    static void p22_notSoManyHours() {
        FogSheets x = Tapes.estuary("e6,0,2,0;g2;o0,3,9;");
        Due.are(new long[] {x.walk(1, 0), x.walk(1, 1), x.walk(1, MOST), x.walk(6, 5), x.walk(6, 6)},
            3, NONE, NONE, 3, NONE);
    }

    @Says("BAD: k below -1, too;")
    static void p22_kBelowMinus1() {
        FogSheets x = Tapes.estuary(THREE);
        Due.are(new long[] {x.walk(1, -2), x.walk(6, LEAST), x.walk(1, -1)}, BAD, BAD, 6);
    }

    @Says("BAD:")
    static void p22_notForSoLong() {
        FogSheets x = Tapes.estuary(THREE);
        Due.are(new long[] {x.walk(0, -1), x.walk(7, -1), x.walk(-1, -1), x.walk(LEAST, -1), x.walk(MOST, -1)},
            BAD, BAD, BAD, BAD, BAD);
    }

    @Says("Refusals are answers, the first of these that fits, but as told")
    static void p22_badAheadOfNotSoMany() {
        FogSheets x = Tapes.estuary(THREE);
        Due.are(new long[] {x.walk(7, 9), x.walk(0, 0), x.walk(0, 9)}, BAD, BAD, BAD);
    }

    @Says("STATE: no ESTUARY (ahead of BAD).")
    static void p22_noEstuary() {
        FogSheets x = new FogSheets();
        Due.are(new long[] {x.walk(1, -1), x.walk(1, 9), x.walk(0, -1), x.walk(1, -2)}, STATE, STATE, STATE, STATE);
    }

    @Says("FORETOLD (nothing changes).")
    static void p22_nothingChanges() {
        Sight.changesNothing(y -> {
            y.walk(6, -1);
            y.walk(6, 5);
            y.walk(2, 9);
            y.walk(2, -2);
        });
    }

    // ---- 23: meet

    @Says({"MEET a SHEET: behind how many HOURS (0 to 20) the walker can be under it first, going so; NONE.", "MEET;"})
    static void p23_theFirst() {
        FogSheets x = Tapes.estuary("e16,0,0,0;g2;o15,1,9;h5,1,9;s9,1,9;s9,3,9;");
        Due.are(new long[] {x.meet(0), x.meet(1), x.meet(2), x.meet(3)}, 15, 3, 9, 9);
        Due.is(Tapes.estuary("e6,0,5,0;g2;o0,1,9;").meet(0), 5);
    }

    @Says("behind how many HOURS (0 to 20)")
    static void p23_underItNow() {
        FogSheets x = Tapes.estuary("e16,0,7,0;g4;s3,5,9;s8,1,9;");
        Due.is(x.meet(0), 0);
        x.step(1);
        Due.are(new long[] {x.meet(0), x.meet(1)}, 1, 0);
    }

    @Says("going so")
    static void p23_bothGo() {
        Due.is(Tapes.estuary("e6,0,0,0;g0;s3,3,9;").meet(0), 1);
        Due.is(Tapes.estuary("e6,0,0,0;g1;s5,1,9;").meet(0), 3);
    }

    @Says({"going so; NONE.", "NONE."})
    static void p23_never() {
        FogSheets x = Tapes.estuary("e16,0,0,0;g4;s9,1,9;w3,1,2;");
        Due.are(new long[] {x.meet(0), x.meet(1)}, NONE, NONE);
    }

    @Says("NONE.")
    static void p23_oneThatIsGone() {
        FogSheets x = Tapes.estuary("e16,0,3,0;g2;w3,1,1;");
        Due.is(x.meet(0), 0);
        x.hours(1);
        Due.is(x.meet(0), NONE);
    }

    @Says("BAD.")
    static void p23_noSuchSheet() {
        FogSheets x = Tapes.estuary(THREE);
        Due.are(new long[] {x.meet(-1), x.meet(3), x.meet(LEAST), x.meet(MOST)}, BAD, BAD, BAD, BAD);
        Due.is(new FogSheets().meet(0), BAD);
    }

    @Says("FORETOLD (nothing changes).")
    static void p23_nothingChanges() {
        Sight.changesNothing(y -> {
            y.meet(0);
            y.meet(1);
            y.meet(2);
        });
    }

    // ---- 24: site

    private static long[] site(FogSheets x, int n) {
        return new long[] {x.site(n, 0), x.site(n, 1)};
    }

    @Says({"STAND for n HOURS (1 to 30): the CELL on which the clerk would give most NUMBERS behind them",
        "STAND: which (what = 0), how many (1)."})
    static void p24_whereMostAreNumbered() {
        FogSheets x = Tapes.estuary("e6,5,0,1;g2;o1,2,9;o2,2,9;o5,1,9;h3,1,9;");
        Due.are(site(x, 1), 2, 3);
    }

    @Says("STAND for n HOURS (1 to 30)")
    static void p24_from1To30() {
        FogSheets x = Tapes.estuary("e16,0,0,15;g2;h15,1,9;h14,1,9;h12,1,9;h9,1,9;");
        Due.are(site(x, 1), 8, 1);
        Due.are(site(x, 2), 13, 2);
        Due.are(site(x, 4), 11, 3);
        Due.are(site(x, 30), 0, 4);
    }

    @Says("of several the first: which;")
    static void p24_ofSeveralTheFirst() {
        Due.are(site(Tapes.estuary("e6,5,0,15;g2;o4,2,9;o2,1,9;"), 1), 2, 1);
        Due.are(site(Tapes.estuary("e6,5,0,15;g2;o1,5,9;"), 1), 1, 1);
    }

    @Says("of several the first: which;")
    static void p24_nowhereIsTheFirst() {
        Due.are(site(Tapes.estuary("e6,5,0,0;g2;o4,2,9;"), 30), 0, 0);
        Due.are(site(Tapes.estuary("e6,5,0,15;g2;w4,2,1;"), 30), 0, 0);
    }

    @Says("the CELL on which the clerk would give most NUMBERS")
    static void p24_theHighestCell() {
        Due.are(site(Tapes.estuary("e6,0,0,15;g2;o5,1,9;"), 1), 5, 1);
        Due.are(site(Tapes.estuary("e16,0,0,15;g2;o15,1,9;"), 1), 15, 1);
    }

    @Says("the CELL on which the clerk would give most NUMBERS")
    static void p24_onlyWhileAwake() {
        Due.are(site(Tapes.estuary("e6,0,0,2;g2;h5,1,9;h4,2,9;"), 1), 0, 0);
        Due.are(site(Tapes.estuary("e6,0,0,2;g2;h5,1,9;h4,2,9;"), 2), 3, 2);
    }

    @Says("how many SHEETS have one then.")
    static void p24_withThoseThatHaveOne() {
        FogSheets x = Tapes.estuary("e6,0,0,15;g2;o0,1,9;o3,1,9;o3,1,9;", 1);
        Due.are(site(x, 1), 3, 3);
        FogSheets y = Tapes.estuary("e6,3,0,15;g2;o0,1,9;o3,1,9;o3,1,9;", 1);
        Due.are(site(y, 1), 0, 3);
    }

    @Says("how many SHEETS have one then.")
    static void p24_oneThatIsGoneHasOneToo() {
        FogSheets x = Tapes.estuary("e6,0,0,15;g2;w0,1,2;o3,1,9;", 2);
        Due.are(new long[] {x.stand(4), x.site(1, 0), x.site(1, 1)}, 2, 3, 2);
    }

    @Says("BAD;")
    static void p24_notForSoLong() {
        FogSheets x = Tapes.estuary(THREE);
        Due.are(new long[] {x.site(0, 0), x.site(31, 0), x.site(-1, 1), x.site(LEAST, 0), x.site(MOST, 0)},
            BAD, BAD, BAD, BAD, BAD);
    }

    @Says("BAD;")
    static void p24_noSuchWhat() {
        FogSheets x = Tapes.estuary(THREE);
        Due.are(new long[] {x.site(1, -1), x.site(1, 2), x.site(1, LEAST), x.site(1, MOST)}, BAD, BAD, BAD, BAD);
    }

    @Says("STATE: no ESTUARY (ahead of BAD).")
    static void p24_noEstuary() {
        FogSheets x = new FogSheets();
        Due.are(new long[] {x.site(1, 0), x.site(0, 0), x.site(31, 0), x.site(1, 2)}, STATE, STATE, STATE, STATE);
    }

    @Says("FORETOLD (nothing changes).")
    static void p24_nothingChanges() {
        Sight.changesNothing(y -> {
            y.site(30, 0);
            y.site(9, 1);
        });
    }

    // ---- 25: waking

    private static long[] waking(FogSheets x, int n) {
        return new long[] {x.waking(n, 0), x.waking(n, 1)};
    }

    @Says({"WAKE for n HOURS (1 to 30): of all AWAKE those with the fewest bits by which as many SHEETS have a NUMBER "
        + "behind them as by 15", "WAKE: which (what = 0), how many bits (1)."})
    static void p25_theFewestBits() {
        FogSheets x = Tapes.estuary("e6,3,0,0;g3;s1,1,9;s0,1,9;");
        Due.are(waking(x, 1), 0, 0);
        Due.are(waking(x, 2), 2, 1);
        Due.are(waking(x, 3), 6, 2);
        Due.are(waking(x, 30), 6, 2);
    }

    @Says("those with the fewest bits")
    static void p25_onceForTwo() {
        Due.are(waking(Tapes.estuary("e6,3,0,0;g3;s1,2,9;s0,2,9;"), 30), 2, 1);
    }

    @Says("those with the fewest bits")
    static void p25_fewBitsAheadOfALowNumber() {
        // By 3 both are seen, by 4 as well: 4 has fewer bits.
        Due.are(waking(Tapes.estuary("e6,0,0,0;g2;h1,3,9;h2,2,9;h3,1,9;"), 30), 4, 1);
    }

    @Says("of these the least: which; how many bits.")
    static void p25_theLeastOfThese() {
        Due.are(waking(Tapes.estuary("e6,3,0,0;g2;o3,1,9;"), 30), 1, 1);
        Due.are(waking(Tapes.estuary("e6,3,0,0;g3;s0,3,9;"), 30), 1, 1);
    }

    @Says("as by 15")
    static void p25_allFour() {
        FogSheets x = Tapes.estuary("e6,0,0,0;g2;h1,1,9;h2,1,9;h3,1,9;h4,1,9;");
        Due.are(waking(x, 4), 15, 4);
        Due.are(waking(x, 3), 7, 3);
    }

    @Says("those with the fewest bits")
    static void p25_allButOne() {
        Due.are(waking(Tapes.estuary("e6,0,0,0;g2;h2,1,9;h3,1,9;h4,1,9;"), 30), 14, 3);
        Due.are(waking(Tapes.estuary("e6,0,0,0;g2;h1,1,9;h3,1,9;h4,1,9;"), 30), 13, 3);
        Due.are(waking(Tapes.estuary("e6,0,0,0;g2;h1,1,9;h2,1,9;h4,1,9;"), 30), 11, 3);
    }

    @Says("bits 0 to 3: whether the clerk is awake in HOURS that leave 0 to 3 by 4")
    static void p25_byTheHourThatItIs() {
        FogSheets x = Tapes.estuary("e6,0,0,0;g2;h4,1,9;w1,1,1;", 3);
        Due.are(waking(x, 1), 8, 1);
        x.undo();
        Due.are(waking(x, 1), 0, 0);
        Due.are(waking(x, 2), 8, 1);
    }

    @Says("as many SHEETS have a NUMBER")
    static void p25_thoseThatHaveOneNeedNone() {
        FogSheets x = Tapes.estuary("e6,3,0,15;g2;o3,1,9;", 1);
        Due.are(waking(x, 30), 0, 0);
    }

    @Says("BAD;")
    static void p25_notForSoLong() {
        FogSheets x = Tapes.estuary(THREE);
        Due.are(new long[] {x.waking(0, 0), x.waking(31, 0), x.waking(-1, 1), x.waking(LEAST, 0), x.waking(MOST, 0)},
            BAD, BAD, BAD, BAD, BAD);
    }

    @Says("BAD;")
    static void p25_noSuchWhat() {
        FogSheets x = Tapes.estuary(THREE);
        Due.are(new long[] {x.waking(1, -1), x.waking(1, 2), x.waking(1, LEAST), x.waking(1, MOST)},
            BAD, BAD, BAD, BAD);
    }

    @Says("STATE: no ESTUARY (ahead of BAD).")
    static void p25_noEstuary() {
        FogSheets x = new FogSheets();
        Due.are(new long[] {x.waking(1, 0), x.waking(0, 0), x.waking(31, 0), x.waking(1, 2)},
            STATE, STATE, STATE, STATE);
    }

    @Says("FORETOLD (nothing changes).")
    static void p25_nothingChanges() {
        Sight.changesNothing(y -> {
            y.waking(30, 0);
            y.waking(9, 1);
        });
    }
}
