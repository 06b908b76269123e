/** Promises 26 to 34: sets, shares, turns, all that fits, likelihoods, draws, images; each sentence by itself. */
public final class ReckonedTest {
    private static final int BAD = FogSheets.BAD, STATE = FogSheets.STATE;
    private static final int NULL = -1000011, PLACE = -1000012;
    private static final int LEAST = Integer.MIN_VALUE, MOST = Integer.MAX_VALUE;
    private static final String THREE = "e12,6,5,13;g3;s3,3,6;h9,3,5;o6,1,2;";
    /** Behind an hour it is at 3, as a bank or an odd one it would be over the walker yet. */
    private static final String LONE = "e6,0,2,0;g3;s2,1,5;";

    public static void main(String[] args) {
        Cases.run(ReckonedTest.class);
    }

    // ---- 26: meant

    private static long[] meant(FogSheets x, int v) {
        return new long[] {x.meant(v, 0), x.meant(v, 1), x.meant(v, 2)};
    }

    @Says({"MEANT by v (0 to 54): sets of SHEETS that are IN, of THICK v together: how many; SHEETS (bits) that are in "
        + "all of these (", "in any. SHARE", "MEANT: how many (what = 0), in all (1), in any (2)."})
    static void p26_howManyInAllInAny() {
        FogSheets x = Tapes.estuary("e6,3,0,0;g3;w0,1,2;s0,1,3;s0,1,5;w0,1,1;");
        Due.are(meant(x, 6), 2, 8, 15);
        Due.are(meant(x, 5), 2, 0, 7);
        Due.are(meant(x, 11), 1, 15, 15);
    }

    @Says("(none: 0)")
    static void p26_noSuchSet() {
        FogSheets x = Tapes.estuary("e6,3,0,0;g3;w0,1,2;s0,1,3;s0,1,5;w0,1,1;");
        Due.are(meant(x, 12), 0, 0, 0);
        Due.are(meant(x, 54), 0, 0, 0);
        Due.are(meant(Tapes.estuary("e6,3,0,0;g3;s0,1,3;"), 1), 0, 0, 0);
    }

    @Says("MEANT by v (0 to 54)")
    static void p26_noneTogetherAre0() {
        Due.are(meant(Tapes.estuary("e6,3,0,0;g3;w0,1,2;s0,1,3;"), 0), 1, 0, 0);
    }

    @Says("MEANT by v (0 to 54)")
    static void p26_allSixTogetherAre54() {
        FogSheets x = Tapes.estuary("e6,3,0,0;g3;w0,1,9;s0,1,9;s0,1,9;w0,1,9;s0,1,9;w0,1,9;");
        Due.are(meant(x, 54), 1, 63, 63);
        Due.are(meant(x, 53), 0, 0, 0);
        Due.are(meant(x, 27), 20, 0, 63);
    }

    @Says("sets of SHEETS that are IN")
    static void p26_onlyThoseThatAreIn() {
        FogSheets x = Tapes.estuary("e6,3,0,0;g2;w0,1,1;o0,1,1;o0,1,2;", 1);
        Due.are(meant(x, 1), 0, 0, 0);
        Due.are(meant(x, 2), 1, 2, 2);
        Due.are(meant(x, 5), 1, 6, 6);
        Due.are(meant(x, 6), 0, 0, 0);
    }

    @Says("sets of SHEETS that are IN")
    static void p26_allAreGone() {
        FogSheets x = Tapes.estuary("e6,3,0,0;g2;w0,1,1;", 1);
        Due.are(meant(x, 0), 1, 0, 0);
        Due.are(meant(x, 1), 0, 0, 0);
    }

    @Says("BAD;")
    static void p26_noSuchThickness() {
        FogSheets x = Tapes.estuary(THREE);
        Due.are(new long[] {x.meant(-1, 0), x.meant(55, 0), x.meant(LEAST, 0), x.meant(MOST, 0)}, BAD, BAD, BAD, BAD);
    }

    @Says("BAD;")
    static void p26_noSuchWhat() {
        FogSheets x = Tapes.estuary(THREE);
        Due.are(new long[] {x.meant(0, -1), x.meant(0, 3), x.meant(0, LEAST), x.meant(0, MOST)}, BAD, BAD, BAD, BAD);
    }

    @Says("STATE: no ESTUARY (ahead of BAD).")
    static void p26_noEstuary() {
        FogSheets x = new FogSheets();
        Due.are(new long[] {x.meant(0, 0), x.meant(55, 0), x.meant(0, 3)}, STATE, STATE, STATE);
    }

    @Says("FORETOLD (nothing changes).")
    static void p26_nothingChanges() {
        Sight.changesNothing(y -> {
            y.meant(9, 0);
            y.meant(6, 1);
            y.meant(0, 2);
        });
    }

    // ---- 27: share

    private static long[] shares(FogSheets x, int n) {
        long[] shares = new long[x.count(1)];
        for (int s = 0; s < shares.length; s++) {
            shares[s] = x.share(s, n);
        }
        return shares;
    }

    /** 1, 2, 6 and 5 of 14. */
    private static final String PAILS = "e16,3,0,0;g2;w0,1,1;s0,1,2;s0,2,3;s0,1,5;";

    @Says({"SHARE of n pails (0 to 999): each SHEET that is IN gets as many as n times WIDE times THICK by all that of "
        + "these (cut)", "SHARE."})
    static void p27_byWideAndThick() {
        Due.are(shares(Tapes.estuary(PAILS), 14), 1, 2, 6, 5);
        Due.are(shares(Tapes.estuary(PAILS), 28), 2, 4, 12, 10);
    }

    @Says("(cut), what is over 1 each to the first ones: how many a SHEET gets (")
    static void p27_whatIsOverGoesToTheFirst() {
        Due.are(shares(Tapes.estuary(PAILS), 10), 1, 2, 4, 3);
        Due.are(shares(Tapes.estuary(PAILS), 1), 1, 0, 0, 0);
        Due.are(shares(Tapes.estuary(PAILS), 13), 1, 2, 6, 4);
    }

    @Says("SHARE of n pails (0 to 999)")
    static void p27_noPails() {
        Due.are(shares(Tapes.estuary(PAILS), 0), 0, 0, 0, 0);
    }

    @Says("SHARE of n pails (0 to 999)")
    static void p27_999Pails() {
        Due.are(shares(Tapes.estuary(PAILS), 999), 72, 143, 428, 356);
        Due.are(shares(Tapes.estuary("e16,3,0,0;g2;s0,5,9;"), 999), 999);
        Due.are(shares(Tapes.estuary("e6,0,0,0;g2;s0,5,9;s0,5,9;s0,5,9;s0,5,9;s0,5,9;s0,5,9;"), 999),
            167, 167, 167, 166, 166, 166);
    }

    @Says("each SHEET that is IN gets as many")
    static void p27_aLoneOneHoweverThinGetsAll() {
        Due.are(shares(Tapes.estuary("e6,0,0,0;g2;s0,1,1;"), 7), 7);
        Due.are(shares(Tapes.estuary("e6,0,0,0;g2;w0,5,1;s0,1,1;", 1), 999), 0, 999);
    }

    @Says("(0, if it is GONE).")
    static void p27_oneThatIsGoneGetsNone() {
        Due.are(shares(Tapes.estuary(PAILS, 1), 10), 0, 2, 5, 3);
        Due.are(shares(Tapes.estuary(PAILS, 1), 1), 0, 1, 0, 0);
    }

    @Says("(0, if it is GONE).")
    static void p27_allAreGone() {
        Due.are(shares(Tapes.estuary(PAILS, 24), 999), 0, 0, 0, 0);
    }

    @Says("BAD.")
    static void p27_noSuchSheet() {
        FogSheets x = Tapes.estuary(PAILS);
        Due.are(new long[] {x.share(-1, 0), x.share(4, 0), x.share(LEAST, 0), x.share(MOST, 0)}, BAD, BAD, BAD, BAD);
        Due.is(new FogSheets().share(0, 0), BAD);
    }

    @Says("BAD.")
    static void p27_notSoManyPails() {
        FogSheets x = Tapes.estuary(PAILS);
        Due.are(new long[] {x.share(0, -1), x.share(0, 1000), x.share(0, LEAST), x.share(0, MOST)},
            BAD, BAD, BAD, BAD);
    }

    @Says("FORETOLD (nothing changes).")
    static void p27_nothingChanges() {
        Sight.changesNothing(y -> {
            y.share(0, 999);
            y.share(2, 9);
        });
    }

    // ---- 28: byTurns

    private static long[] turns(String text, int m) {
        FogSheets x = Tapes.estuary(text);
        long[] turns = new long[5];
        for (int n = 0; n <= 4; n++) {
            turns[n] = x.byTurns(n, m);
        }
        return turns;
    }

    @Says({"TURNS of two, n in all (0 to 4)", "and so on, all now", "TURNS."})
    static void p28_fromNoTurnTo4() {
        // It lies on 2 to 4 behind an hour, on 0 to 2 if the wind is turned.
        Due.are(turns("e6,0,2,0;g3;s1,3,9;", 1), 9, 0, 9, 0, 9);
    }

    @Says("the walker goes one CELL down, or up (not beyond the ends), or stays, then the court")
    static void p28_theWalkerFirst() {
        Due.are(turns("e6,0,2,0;g2;o0,3,9;", 1), 9, 0, 0, 0, 0);
        Due.are(turns("e6,0,3,0;g2;o3,3,9;", 1), 9, 0, 0, 0, 0);
        Due.are(turns("e6,0,2,0;g2;o1,1,9;o3,1,9;", 1), 0, 0, 0, 0, 0);
    }

    @Says("(not beyond the ends), or stays")
    static void p28_notBeyondTheEnds() {
        Due.are(turns("e6,0,0,0;g2;o0,2,9;", 1), 9, 9, 9, 0, 0);
        Due.are(turns("e6,0,5,0;g2;o4,2,9;", 1), 9, 9, 9, 0, 0);
        Due.are(turns("e16,0,15,0;g2;o14,2,9;", 1), 9, 9, 9, 0, 0);
        Due.are(turns("e6,0,1,0;g2;o1,5,9;", 1), 9, 0, 0, 0, 0);
        Due.are(turns("e6,0,4,0;g2;o0,5,9;", 1), 9, 0, 0, 0, 0);
    }

    @Says("then the court turns the WIND of this HOUR (4 less what it is, from then on), or does nothing")
    static void p28_theCourtTurnsTheWind() {
        // Turned it lies on 9 to 13 behind the hour, else on 5 to 9.
        Due.are(turns("e16,0,11,0;g0;s7,5,9;", 1), 0, 0, 9, 9, 9);
        Due.are(turns("e16,0,7,0;g1;s4,1,9;", 1), 0, 0, 0, 0, 0);
        // Turned it lies on 5 to 7, else on 3 to 5.
        Due.are(turns("e16,0,5,0;g1;s4,3,9;", 1), 9, 0, 9, 0, 9);
    }

    @Says("or does nothing")
    static void p28_orTheCourtDoesNothing() {
        Due.are(turns("e16,0,7,0;g4;s3,5,9;", 1), 9, 9, 9, 9, 9);
    }

    @Says("4 less what it is")
    static void p28_aCalmStaysACalm() {
        Due.are(turns("e16,0,7,0;g2;s1,5,9;s9,5,9;", 1), 0, 0, 0, 0, 0);
    }

    @Says("the WIND of this HOUR")
    static void p28_onlyThisHoursWind() {
        FogSheets x = Tapes.estuary("e16,0,6,0;g2;g3;s5,1,9;");
        Due.are(new long[] {x.byTurns(0, 1), x.byTurns(0, 2), x.byTurns(2, 2)}, 0, 8, 0);
        x.hours(1);
        Due.are(new long[] {x.byTurns(0, 1), x.byTurns(1, 1), x.byTurns(2, 1)}, 8, 0, 0);
    }

    @Says("from then on")
    static void p28_turnedForAllTheHours() {
        // Turned it comes down by two each hour, and is over 7 behind three of them.
        Due.are(new long[] {Tapes.estuary("e16,0,7,0;g4;s10,5,9;").byTurns(2, 3)}, 8);
        Due.are(new long[] {Tapes.estuary("e16,0,7,0;g4;g2;s10,5,9;").byTurns(2, 3)}, 8);
        Due.are(new long[] {Tapes.estuary("e16,0,7,0;g4;g2;s13,3,9;").byTurns(2, 3)}, 0);
    }

    @Says("m HOURS (1 to 20)")
    static void p28_from1To20Hours() {
        Due.are(turns("e16,0,7,0;g2;o7,1,1;", 1), 2, 0, 0, 0, 0);
        FogSheets x = Tapes.estuary("e6,0,0,0;g2;g2;g2;g0;g0;g0;o0,5,5;o5,1,5;");
        Due.are(new long[] {x.byTurns(0, 1), x.byTurns(0, 18), x.byTurns(0, 19), x.byTurns(0, 20)}, 6, 5, 6, 7);
    }

    @Says("then m HOURS: OVER the walker behind them")
    static void p28_behindTheLastOfThem() {
        FogSheets x = Tapes.estuary("e6,0,2,0;g3;s1,1,9;");
        Due.are(new long[] {x.byTurns(0, 1), x.byTurns(0, 2), x.byTurns(0, 3)}, 9, 0, 0);
    }

    @Says("the walker wants it little, the court great: what comes of it.")
    static void p28_whatComesOfIt() {
        Due.are(turns("e6,0,2,0;g2;o2,1,7;o1,1,2;o3,1,4;", 1), 8, 3, 3, 0, 0);
        Due.are(turns("e6,0,2,0;g3;s1,3,9;b2,1,3;", 1), 12, 0, 9, 0, 9);
    }

    @Says("TURNS of two, n in all (0 to 4)")
    static void p28_behindAWalkInThickFog() {
        FogSheets x = Tapes.estuary("e6,0,2,0;g2;s0,5,9;s0,5,9;w0,5,9;w0,5,9;h1,5,9;h1,5,9;");
        x.walk(6, -1);
        Tapes.read(x, "e6,0,2,0;g3;s1,3,9;");
        Due.are(new long[] {x.byTurns(0, 1), x.byTurns(1, 1), x.byTurns(2, 1), x.byTurns(3, 1), x.byTurns(4, 1)},
            9, 0, 9, 0, 9);
    }

    @Says("BAD;")
    static void p28_notSoManyTurns() {
        FogSheets x = Tapes.estuary(THREE);
        Due.are(new long[] {x.byTurns(-1, 1), x.byTurns(5, 1), x.byTurns(LEAST, 1), x.byTurns(MOST, 1)},
            BAD, BAD, BAD, BAD);
    }

    @Says("BAD;")
    static void p28_notSoManyHours() {
        FogSheets x = Tapes.estuary(THREE);
        Due.are(new long[] {x.byTurns(0, 0), x.byTurns(0, 21), x.byTurns(0, LEAST), x.byTurns(0, MOST)},
            BAD, BAD, BAD, BAD);
    }

    @Says("STATE: no ESTUARY (ahead of BAD).")
    static void p28_noEstuary() {
        FogSheets x = new FogSheets();
        Due.are(new long[] {x.byTurns(0, 1), x.byTurns(5, 1), x.byTurns(0, 0)}, STATE, STATE, STATE);
    }

    @Says("FORETOLD (nothing changes).")
    static void p28_nothingChanges() {
        Sight.changesNothing(y -> {
            y.byTurns(4, 20);
            y.byTurns(2, 1);
        });
    }

    // ---- 29: who

    /** Row 0 of ints with these items. */
    private static FogSheets told(String text, int... items) {
        FogSheets x = Tapes.estuary(text);
        x.row(0, 2, items.length);
        Items.put(x, 0, items);
        return x;
    }

    @Says({"KINDS (bits 1 to 5)", "KINDS (which = 0)", "by which it is so. GUSTS"})
    static void p29_kinds() {
        FogSheets x = told(LONE, 0, 5, 4, 3);
        Due.are(new long[] {x.who(0, 0, 0, 0, 1), x.who(0, 0, 0, 1, 1), x.who(0, 0, 0, 2, 1), x.who(0, 0, 0, 3, 1)},
            0b011010, 0b000100, 0b100000, 0);
    }

    @Says("KINDS (bits 1 to 5)")
    static void p29_allKinds() {
        FogSheets x = told("e6,0,5,0;g2;s0,1,5;", 0);
        Due.is(x.who(0, 0, 0, 0, 1), 0b111110);
    }

    @Says({"STARTS (CELLS for AT, bits)", "STARTS (1)"})
    static void p29_starts() {
        FogSheets x = told(LONE, 0, 5, 4);
        Due.are(new long[] {x.who(0, 1, 0, 0, 1), x.who(0, 1, 0, 1, 1), x.who(0, 1, 0, 2, 1)}, 0b111101, 0b000010, 0);
    }

    @Says("STARTS (CELLS for AT, bits)")
    static void p29_startsAtBothEnds() {
        FogSheets x = told("e16,0,15,0;g2;s7,1,5;", 5, 0);
        Due.are(new long[] {x.who(0, 1, 0, 0, 1), x.who(0, 1, 0, 1, 1)}, 1 << 15, 0b0111111111111111);
        Due.is(told("e16,0,0,0;g2;s7,1,5;", 5).who(0, 1, 0, 0, 1), 1);
        Due.is(told("e6,0,5,0;g2;s0,5,5;", 5).who(0, 1, 0, 0, 1), 0b111110);
    }

    @Says({"THICKS (1 to 9, bits) of a SHEET, if it is IN, by which it is so.", "THICKS (2)"})
    static void p29_thicks() {
        FogSheets x = told("e6,0,2,0;g2;s2,1,5;", 1, 9, 5, 0, 10);
        Due.are(new long[] {x.who(0, 2, 0, 0, 1), x.who(0, 2, 0, 1, 1), x.who(0, 2, 0, 2, 1), x.who(0, 2, 0, 3, 1),
            x.who(0, 2, 0, 4, 1)}, 1 << 1, 1 << 9, 1 << 5, 0, 0);
        Due.is(told(LONE, 0).who(0, 2, 0, 0, 1), 0b1111111110);
    }

    @Says("A row tells OVER the walker (who stays) behind each of n HOURS")
    static void p29_besideTheOthers() {
        FogSheets x = told("e6,0,2,0;g2;o2,1,5;o2,1,1;", 8);
        Due.are(new long[] {x.who(0, 0, 0, 0, 1), x.who(0, 2, 0, 0, 1), x.who(1, 2, 0, 0, 1)}, 32, 32, 2);
    }

    @Says("(who stays)")
    static void p29_whereTheWalkerIsNow() {
        FogSheets x = told(LONE, 5);
        Due.is(x.who(0, 1, 0, 0, 1), 0b000010);
        x.step(1);
        Due.is(x.who(0, 1, 0, 0, 1), 0b000100);
    }

    @Says("behind each of n HOURS (1 to 12) from now on.")
    static void p29_twelveHours() {
        FogSheets x = told("e6,0,0,0;g2;g0;o0,1,5;", 6, 5, 6, 5, 6, 5, 6, 5, 6, 5, 6, 5);
        Due.are(new long[] {x.who(0, 2, 0, 0, 12), x.who(0, 0, 0, 0, 12), x.who(0, 1, 0, 0, 12)}, 32, 32, 1);
        x.set(0, 11, 6);
        Due.are(new long[] {x.who(0, 2, 0, 0, 12), x.who(0, 2, 0, 0, 11), x.who(0, 2, 0, 0, 1)}, 0, 32, 32);
    }

    @Says("from now on")
    static void p29_fromThisHourOn() {
        FogSheets x = told("e6,0,0,0;g2;g0;o0,1,5;", 5);
        Due.is(x.who(0, 2, 0, 0, 1), 16);
        x.hours(1);
        Due.is(x.who(0, 2, 0, 0, 1), 64);
    }

    @Says("n ITEMS of a ROW from i on.")
    static void p29_fromIOn() {
        FogSheets x = Tapes.estuary("e6,0,0,0;g2;g0;o0,1,5;");
        x.row(7, 0, 40);
        x.set(7, 28, 6);
        x.set(7, 29, 5);
        Due.are(new long[] {x.who(0, 2, 7, 28, 2), x.who(0, 2, 7, 27, 2), x.who(0, 2, 7, 38, 2)}, 32, 0, 0);
        Due.are(new long[] {x.who(0, 1, 7, 28, 12), x.who(0, 1, 7, 0, 12)}, 0, 0b111110);
    }

    @Says("n ITEMS of a ROW from i on.")
    static void p29_itemsOfEachLane() {
        FogSheets x = Tapes.estuary(LONE);
        for (int lane = 0; lane <= 2; lane++) {
            x.row(lane, lane, 1);
            x.set(lane, 0, 5);
            Due.is("lane " + lane, x.who(0, 0, lane, 0, 1), 4);
            x.set(lane, 0, -1);
            Due.is("lane " + lane + ", below 0", x.who(0, 0, lane, 0, 1), 0);
        }
    }

    @Says("BAD: SHEET, which, ROW, n;")
    static void p29_noSuchSheet() {
        FogSheets x = told(LONE, 0);
        Due.are(new long[] {x.who(-1, 0, 0, 0, 1), x.who(1, 0, 0, 0, 1), x.who(LEAST, 0, 0, 0, 1),
            x.who(MOST, 0, 0, 0, 1)}, BAD, BAD, BAD, BAD);
        FogSheets y = new FogSheets();
        y.row(0, 0, 1);
        Due.is(y.who(0, 0, 0, 0, 1), BAD);
    }

    @Says("BAD: SHEET, which, ROW, n;")
    static void p29_noSuchWhich() {
        FogSheets x = told(LONE, 0);
        Due.are(new long[] {x.who(0, -1, 0, 0, 1), x.who(0, 3, 0, 0, 1), x.who(0, LEAST, 0, 0, 1),
            x.who(0, MOST, 0, 0, 1)}, BAD, BAD, BAD, BAD);
    }

    @Says("BAD: SHEET, which, ROW, n;")
    static void p29_noSuchRow() {
        FogSheets x = told(LONE, 0);
        Due.are(new long[] {x.who(0, 0, -1, 0, 1), x.who(0, 0, 8, 0, 1), x.who(0, 0, LEAST, 0, 1),
            x.who(0, 0, MOST, 0, 1)}, BAD, BAD, BAD, BAD);
    }

    @Says("BAD: SHEET, which, ROW, n;")
    static void p29_notSoManyHours() {
        FogSheets x = told(LONE, new int[40]);
        Due.are(new long[] {x.who(0, 0, 0, 0, 0), x.who(0, 0, 0, 0, 13), x.who(0, 0, 0, 0, -1),
            x.who(0, 0, 0, 0, LEAST), x.who(0, 0, 0, 0, MOST), x.who(0, 0, 0, 0, 12)},
            BAD, BAD, BAD, BAD, BAD, 0b011010);
    }

    @Says({"STATE: it is GONE", "if it is IN, by which"})
    static void p29_itIsGone() {
        FogSheets x = told("e6,0,2,0;g3;w2,1,1;s2,1,5;", 0);
        x.hours(1);
        Due.are(new long[] {x.who(0, 0, 0, 0, 1), x.who(0, 1, 0, 0, 1), x.who(0, 2, 0, 0, 1), x.who(1, 2, 0, 0, 1)},
            STATE, STATE, STATE, 0b1111111110);
    }

    @Says("; NULL;")
    static void p29_theRowIsMissing() {
        FogSheets x = told(LONE, 0);
        Due.are(new long[] {x.who(0, 0, 1, 0, 1), x.status(), x.who(0, 2, 7, -1, 12)}, NULL, 1, NULL);
    }

    @Says("PLACE.")
    static void p29_noSuchPlace() {
        FogSheets x = told(LONE, new int[12]);
        Due.are(new long[] {x.who(0, 0, 0, -1, 1), x.status(), x.who(0, 0, 0, 1, 12), x.who(0, 0, 0, 12, 1),
            x.who(0, 0, 0, MOST, 12), x.who(0, 0, 0, LEAST, 12), x.who(0, 0, 0, 0, 12), x.who(0, 0, 0, 11, 1)},
            PLACE, 2, PLACE, PLACE, PLACE, PLACE, 0b011010, 0b011010);
        x.row(0, 0, 0);
        Due.is(x.who(0, 0, 0, 0, 1), PLACE);
    }

    @Says("BAD (a number is not as told; there is no such thing), STATE (as told), FULL (as told), then FINDINGS")
    static void p29_theOrderOfRefusals() {
        FogSheets x = told("e6,0,2,0;g3;w2,1,1;s2,1,5;", 0);
        x.hours(1);
        Due.are(new long[] {x.who(0, 3, 0, 0, 1), x.who(0, 0, 8, 0, 1), x.who(0, 0, 1, 0, 13), x.who(1, 0, 1, 9, 0)},
            BAD, BAD, BAD, BAD);
        Due.are(new long[] {x.who(0, 0, 1, 0, 1), x.who(0, 0, 0, 1, 1)}, STATE, STATE);
        Due.are(new long[] {x.who(1, 0, 1, 1, 1), x.who(1, 0, 0, 1, 1)}, NULL, PLACE);
    }

    @Says("FORETOLD (nothing changes).")
    static void p29_nothingChanges() {
        Sight.changesOnlyStatus(y -> {
            y.who(0, 0, 2, 0, 12);
            y.who(1, 1, 2, 0, 12);
            y.who(0, 2, 6, 9, 3);
        }, 0);
        Sight.changesOnlyStatus(y -> y.who(0, 0, 1, 0, 1), 1);
        Sight.changesOnlyStatus(y -> y.who(0, 0, 0, 3, 1), 2);
        Sight.changesNothing(y -> {
            y.who(2, 0, 0, 0, 1);
            y.who(0, 0, 0, 0, 13);
        });
    }

    // ---- 30: gusts

    @Says({"GUSTS (0 to 4, bits) of a WIND by which it is so.", "GUSTS of a WIND, likewise."})
    static void p30_gusts() {
        FogSheets x = told("e6,0,2,0;g3;g2;s2,1,5;", 5, 4, 0, 4);
        Due.are(new long[] {x.gusts(0, 0, 0, 1), x.gusts(0, 0, 0, 2), x.gusts(0, 0, 2, 1)}, 0b00100, 0b00100, 0b11011);
        // It is away behind the first hour, and back behind the second.
        Due.are(new long[] {x.gusts(1, 0, 2, 1), x.gusts(1, 0, 2, 2), x.gusts(1, 0, 0, 1)}, 0b11111, 0b00010, 0);
    }

    @Says("GUSTS (0 to 4, bits)")
    static void p30_eachGust() {
        for (int v = 0; v <= 4; v++) {
            FogSheets x = told("e16,0,8,0;g" + (4 - v) + ";s" + (10 - v) + ",1,5;", 5);
            Due.is("gust " + v, x.gusts(0, 0, 0, 1), 1 << v);
        }
    }

    @Says("GUSTS (0 to 4, bits)")
    static void p30_allOrNone() {
        FogSheets x = told("e16,0,8,0;g2;s0,1,5;", 0, 54, -1);
        Due.are(new long[] {x.gusts(0, 0, 0, 1), x.gusts(0, 0, 1, 1), x.gusts(0, 0, 2, 1)}, 31, 0, 0);
    }

    @Says("GUSTS of a WIND, likewise.")
    static void p30_aWindThatComesAround() {
        FogSheets x = told("e16,0,8,0;g2;g2;s2,1,9;", 0, 0, 0, 0, 0, 6);
        Due.are(new long[] {x.gusts(1, 0, 0, 6), x.gusts(0, 0, 0, 6), x.gusts(0, 0, 0, 5)}, 0b10000, 0, 0b01111);
    }

    @Says("GUSTS of a WIND, likewise.")
    static void p30_twelveHours() {
        FogSheets x = told("e6,0,0,0;g2;g0;o0,1,5;", 6, 5, 6, 5, 6, 5, 6, 5, 6, 5, 6, 5);
        Due.are(new long[] {x.gusts(0, 0, 0, 12), x.gusts(1, 0, 0, 12)}, 0b00100, 0b11011);
        x.set(0, 11, 6);
        Due.are(new long[] {x.gusts(0, 0, 0, 12), x.gusts(0, 0, 0, 11)}, 0, 0b00100);
    }

    @Says("BAD: WIND, ROW, n;")
    static void p30_noSuchWind() {
        FogSheets x = told("e6,0,2,0;g3;g2;s2,1,5;", 0);
        Due.are(new long[] {x.gusts(-1, 0, 0, 1), x.gusts(2, 0, 0, 1), x.gusts(LEAST, 0, 0, 1), x.gusts(MOST, 0, 0, 1)},
            BAD, BAD, BAD, BAD);
        FogSheets y = new FogSheets();
        y.row(0, 0, 1);
        Due.is(y.gusts(0, 0, 0, 1), BAD);
    }

    @Says("BAD: WIND, ROW, n;")
    static void p30_noSuchRow() {
        FogSheets x = told(LONE, 0);
        Due.are(new long[] {x.gusts(0, -1, 0, 1), x.gusts(0, 8, 0, 1), x.gusts(0, LEAST, 0, 1), x.gusts(0, MOST, 0, 1)},
            BAD, BAD, BAD, BAD);
    }

    @Says("BAD: WIND, ROW, n;")
    static void p30_notSoManyHours() {
        FogSheets x = told(LONE, new int[40]);
        Due.are(new long[] {x.gusts(0, 0, 0, 0), x.gusts(0, 0, 0, 13), x.gusts(0, 0, 0, -1), x.gusts(0, 0, 0, LEAST),
            x.gusts(0, 0, 0, MOST), x.gusts(0, 0, 0, 12)}, BAD, BAD, BAD, BAD, BAD, 0b11011);
    }

    @Says("; NULL;")
    static void p30_theRowIsMissing() {
        FogSheets x = told(LONE, 0);
        Due.are(new long[] {x.gusts(0, 1, 0, 1), x.status(), x.gusts(0, 7, -1, 12)}, NULL, 1, NULL);
    }

    @Says("PLACE.")
    static void p30_noSuchPlace() {
        FogSheets x = told(LONE, new int[12]);
        Due.are(new long[] {x.gusts(0, 0, -1, 1), x.status(), x.gusts(0, 0, 1, 12), x.gusts(0, 0, 12, 1),
            x.gusts(0, 0, MOST, 12), x.gusts(0, 0, LEAST, 12), x.gusts(0, 0, 0, 12), x.gusts(0, 0, 11, 1)},
            PLACE, 2, PLACE, PLACE, PLACE, PLACE, 0b11011, 0b11011);
    }

    @Says("Refusals are answers, the first of these that fits, but as told")
    static void p30_badAheadOfMissing() {
        FogSheets x = told(LONE, 0);
        Due.are(new long[] {x.gusts(1, 1, 0, 1), x.gusts(0, 1, 0, 13), x.gusts(0, 0, 1, 0)}, BAD, BAD, BAD);
    }

    @Says("GUSTS of a WIND, likewise.")
    static void p30_allAreGone() {
        FogSheets x = told("e6,0,2,0;g3;w2,1,1;", 0, 1);
        x.hours(1);
        Due.are(new long[] {x.gusts(0, 0, 0, 1), x.gusts(0, 0, 1, 1)}, 31, 0);
    }

    @Says("FORETOLD (nothing changes).")
    static void p30_nothingChanges() {
        Sight.changesOnlyStatus(y -> {
            y.gusts(0, 2, 0, 12);
            y.gusts(1, 6, 9, 3);
        }, 0);
        Sight.changesOnlyStatus(y -> y.gusts(0, 1, 0, 1), 1);
        Sight.changesOnlyStatus(y -> y.gusts(0, 0, 3, 1), 2);
        Sight.changesNothing(y -> {
            y.gusts(2, 0, 0, 1);
            y.gusts(0, 0, 0, 13);
        });
    }

    // ---- 31: lift

    /** Six lie on cell 0, five on 1, and so on; none on 6. */
    private static final String STAIRS = "e8,0,2,0;g2;s0,5,9;s0,4,9;s0,3,9;s0,2,9;w0,1,1;s0,1,9;";

    private static long[] lift(FogSheets x, int cell, int n, int p) {
        return new long[] {x.lift(cell, n, p, 0), x.lift(cell, n, p, 1)};
    }

    @Says({"LIFT by p of 10 (0 to 10): each SHEET that is IN is GONE now in p of 10 cases, apart: how likely there is "
        + "nothing OVER a CELL behind n HOURS (0 to 60): a fraction.", "LIFT: above (what = 0), below (1)."})
    static void p31_eachApart() {
        FogSheets x = Tapes.estuary(STAIRS);
        Due.are(lift(x, 4, 0, 3), 3, 10);
        Due.are(lift(x, 3, 0, 3), 9, 100);
        Due.are(lift(x, 0, 0, 3), 729, 1000000);
        Due.are(lift(x, 0, 0, 9), 531441, 1000000);
    }

    @Says("cut towards 0, but fractions, told as two numbers in lowest terms")
    static void p31_inLowestTerms() {
        FogSheets x = Tapes.estuary(STAIRS);
        long[][] six = {{0, 1}, {1, 1000000}, {1, 15625}, {729, 1000000}, {64, 15625}, {1, 64}, {729, 15625},
            {117649, 1000000}, {4096, 15625}, {531441, 1000000}, {1, 1}};
        for (int p = 0; p <= 10; p++) {
            Due.are("p = " + p, lift(x, 0, 0, p), six[p]);
        }
    }

    @Says("(0 is 0 by 1)")
    static void p31_0Is0By1() {
        FogSheets x = Tapes.estuary(STAIRS);
        Due.are(lift(x, 4, 0, 0), 0, 1);
        Due.are(lift(x, 0, 0, 0), 0, 1);
    }

    @Says("LIFT by p of 10 (0 to 10)")
    static void p31_10Of10AreGone() {
        Due.are(lift(Tapes.estuary(STAIRS), 0, 0, 10), 1, 1);
    }

    @Says("how likely there is nothing OVER a CELL")
    static void p31_clearByItself() {
        FogSheets x = Tapes.estuary(STAIRS);
        Due.are(lift(x, 6, 0, 0), 1, 1);
        Due.are(lift(x, 6, 0, 7), 1, 1);
        Due.are(lift(x, 0, 60, 0), 1, 1);
    }

    @Says("behind n HOURS (0 to 60): a fraction.")
    static void p31_behindSomeHours() {
        FogSheets x = Tapes.estuary(STAIRS);
        Due.are(lift(x, 0, 1, 3), 243, 100000);
        FogSheets y = Tapes.estuary("e6,0,0,0;g2;h3,1,9;o0,1,9;");
        Due.are(lift(y, 0, 2, 5), 1, 2);
        Due.are(lift(y, 0, 3, 5), 1, 4);
        Due.are(lift(y, 0, 4, 5), 1, 2);
        Due.are(lift(y, 0, 60, 5), 1, 2);
    }

    @Says("each SHEET that is IN")
    static void p31_oneThatIsGoneNeedNotLift() {
        Due.are(lift(Tapes.estuary("e6,0,0,0;g2;w0,1,1;o0,1,9;", 1), 0, 0, 1), 1, 10);
    }

    @Says("BAD.")
    static void p31_noSuchCell() {
        FogSheets x = Tapes.estuary(STAIRS);
        Due.are(new long[] {x.lift(-1, 0, 0, 0), x.lift(8, 0, 0, 0), x.lift(LEAST, 0, 0, 0), x.lift(MOST, 0, 0, 0)},
            BAD, BAD, BAD, BAD);
        Due.is(new FogSheets().lift(0, 0, 0, 0), BAD);
    }

    @Says("BAD.")
    static void p31_notSoFar() {
        FogSheets x = Tapes.estuary(STAIRS);
        Due.are(new long[] {x.lift(0, -1, 0, 0), x.lift(0, 61, 0, 0), x.lift(0, LEAST, 0, 0), x.lift(0, MOST, 0, 0)},
            BAD, BAD, BAD, BAD);
    }

    @Says("BAD.")
    static void p31_notSoManyOf10() {
        FogSheets x = Tapes.estuary(STAIRS);
        Due.are(new long[] {x.lift(0, 0, -1, 0), x.lift(0, 0, 11, 0), x.lift(0, 0, LEAST, 0), x.lift(0, 0, MOST, 0)},
            BAD, BAD, BAD, BAD);
    }

    @Says("BAD.")
    static void p31_noSuchWhat() {
        FogSheets x = Tapes.estuary(STAIRS);
        Due.are(new long[] {x.lift(0, 0, 0, -1), x.lift(0, 0, 0, 2), x.lift(0, 0, 0, LEAST), x.lift(0, 0, 0, MOST)},
            BAD, BAD, BAD, BAD);
    }

    @Says("FORETOLD (nothing changes).")
    static void p31_nothingChanges() {
        Sight.changesNothing(y -> {
            y.lift(2, 60, 5, 0);
            y.lift(2, 1, 10, 1);
        });
    }

    // ---- 32: drawn

    private static long[] drawn(FogSheets x, int n, int seed) {
        return new long[] {x.drawn(n, seed, 0), x.drawn(n, seed, 1)};
    }

    @Says({"ahead of each X becomes the rest of (X times 16807) by 2147483647;",
        "YEARS by a SEED (1 to 999999): how many (what = 0), OVER the POINT (1)."})
    static void p32_oneHour() {
        FogSheets x = Tapes.estuary("e6,1,0,15;g2;w5,1,1;", 1);
        // X is 16807: the wind stays, the wisp comes in at 1, 5 thick.
        Due.are(drawn(x, 1, 1), 1, 3);
    }

    @Says("the WIND that is the rest of X by how many there are is the rest of X by 5, if X by 3 leaves 0")
    static void p32_theWindIsAnother() {
        FogSheets x = Tapes.estuary("e6,1,0,15;g2;w5,1,1;", 1);
        // X is 50421: the wind is 1, the wisp comes in at 3, 4 thick, and goes down by two.
        Due.are(drawn(x, 1, 3), 1, 2);
    }

    @Says("if X by 3 leaves 0")
    static void p32_theWindThatIsTheRest() {
        FogSheets x = Tapes.estuary("e6,3,0,15;g2;g2;o3,1,5;");
        // X is 151263: wind 1 becomes 3, the first hour is a calm yet; then X is 394793594, which leaves 2 by 3.
        Due.are(drawn(x, 1, 9), 1, 6);
        Due.are(drawn(x, 2, 9), 1, 6 + 5);
        // X is 50421, then 847425747: wind 1 becomes 1, then 2, a calm again.
        Due.are(drawn(x, 2, 3), 1, 6 + 7);
        // X is 16807, then 282475249: both leave 1 by 3.
        Due.are(drawn(x, 2, 1), 1, 6 + 7);
    }

    @Says("the SHEET that is the rest of X by how many there are, if it is GONE, is let in AT the rest of X by how "
        + "many CELLS there are, the rest of X by 9 and 1 THICK;")
    static void p32_oneThatIsInStays() {
        FogSheets x = Tapes.estuary("e6,1,0,15;g2;w5,1,1;", 1);
        // Then X is 282475249, which leaves the wisp that is in as it is, 3 thick, less 1 in an even hour.
        Due.are(drawn(x, 2, 1), 1, 3 + 2);
    }

    @Says("YEARS by a SEED (1 to 999999)")
    static void p32_theGreatestSeed() {
        FogSheets x = Tapes.estuary("e6,2,0,15;g2;w5,1,1;", 1);
        // X is 1774597664: the wind stays, the wisp comes in at 2, 3 thick.
        Due.are(drawn(x, 1, 999999), 1, 1);
    }

    @Says("YEARS of n HOURS (0 to 60) by a SEED (X at first)")
    static void p32_noHours() {
        FogSheets x = Tapes.estuary("e6,1,0,15;g2;o1,1,5;o5,1,5;");
        Due.are(drawn(x, 0, 1), 0, 0);
        x.hours(1);
        Due.are(drawn(x, 0, 999999), 1, 0);
    }

    @Says({"YEARS of n HOURS (0 to 60) by a SEED (X at first)",
        "then the HOUR: how many have a NUMBER at last; OVER the POINT behind each HOUR, all together."})
    static void p32_60HoursAsTheyAreDone() {
        int[] seeds = {1, 2, 77, 4242, 999999};
        for (int seed : seeds) {
            FogSheets x = Tapes.estuary("e9,4,0,7;g4;g2;g1;s5,2,4;w7,1,3;h8,3,5;o3,1,4;");
            long[] foretold = drawn(x, 60, seed);
            long draw = seed;
            long over = 0;
            for (int i = 0; i < 60; i++) {
                draw = draw * 16807 % 2147483647;
                if (draw % 3 == 0) {
                    x.wind((int) (draw % 3), (int) (draw % 5));
                }
                x.let((int) (draw % 4), (int) (draw % 9), (int) (draw % 9) + 1);
                x.hours(1);
                over += x.cell(4, 0);
            }
            Due.are("seed " + seed, foretold, x.count(4), over);
        }
    }

    @Says("BAD;")
    static void p32_notSoFar() {
        FogSheets x = Tapes.estuary(THREE);
        Due.are(new long[] {x.drawn(-1, 1, 0), x.drawn(61, 1, 0), x.drawn(LEAST, 1, 0), x.drawn(MOST, 1, 0)},
            BAD, BAD, BAD, BAD);
    }

    @Says("BAD;")
    static void p32_noSuchSeed() {
        FogSheets x = Tapes.estuary(THREE);
        Due.are(new long[] {x.drawn(0, 0, 0), x.drawn(0, 1000000, 0), x.drawn(0, -1, 0), x.drawn(0, LEAST, 0),
            x.drawn(0, MOST, 0)}, BAD, BAD, BAD, BAD, BAD);
    }

    @Says("BAD;")
    static void p32_noSuchWhat() {
        FogSheets x = Tapes.estuary(THREE);
        Due.are(new long[] {x.drawn(0, 1, -1), x.drawn(0, 1, 2), x.drawn(0, 1, LEAST), x.drawn(0, 1, MOST)},
            BAD, BAD, BAD, BAD);
    }

    @Says("STATE: no ESTUARY (ahead of BAD).")
    static void p32_noEstuary() {
        FogSheets x = new FogSheets();
        Due.are(new long[] {x.drawn(0, 1, 0), x.drawn(61, 1, 0), x.drawn(0, 0, 0), x.drawn(0, 1, 2)},
            STATE, STATE, STATE, STATE);
    }

    @Says("FORETOLD (nothing changes).")
    static void p32_nothingChanges() {
        Sight.changesNothing(y -> {
            y.drawn(60, 3, 0);
            y.drawn(60, 999999, 1);
        });
    }

    // ---- 33: image

    @Says("An IMAGE (0, 1) is kept of the ESTUARY: 1.")
    static void p33_twoAreKept() {
        FogSheets x = Tapes.estuary("e6,1,0,15;g2;g3;o1,1,5;");
        Due.is(x.image(0), 1);
        x.hours(1);
        Due.is(x.image(1), 1);
        x.hours(1);
        Due.are(new long[] {x.restore(0), x.count(3), x.restore(1), x.count(3)}, 1, 0, 1, 1);
    }

    @Says("An IMAGE (0, 1) is kept of the ESTUARY: 1.")
    static void p33_inPlaceOfTheOneBefore() {
        FogSheets x = Tapes.estuary("e6,1,0,15;g2;g3;o1,1,5;");
        x.image(0);
        x.hours(2);
        x.image(0);
        x.hours(2);
        Due.are(new long[] {x.restore(0), x.count(3), x.restore(1)}, 1, 2, STATE);
    }

    @Says("An IMAGE (0, 1) is kept of the ESTUARY: 1.")
    static void p33_theEstuaryStaysAsItIs() {
        FogSheets x = Sight.made();
        long[] before = Sight.of(x);
        x.image(0);
        Due.are(Sight.of(x), before);
    }

    @Says("BAD;")
    static void p33_noSuchImage() {
        FogSheets x = Tapes.estuary(LONE);
        Due.are(new long[] {x.image(-1), x.image(2), x.image(LEAST), x.image(MOST)}, BAD, BAD, BAD, BAD);
        Sight.changesNothing(y -> {
            y.image(-1);
            y.image(2);
        });
    }

    @Says("STATE: no ESTUARY.")
    static void p33_noEstuary() {
        FogSheets x = new FogSheets();
        Due.are(new long[] {x.image(0), x.image(1), x.restore(0)}, STATE, STATE, STATE);
    }

    @Says("Refusals are answers, the first of these that fits, but as told")
    static void p33_badAheadOfNoEstuary() {
        FogSheets x = new FogSheets();
        Due.are(new long[] {x.image(2), x.image(-1), x.image(0)}, BAD, BAD, STATE);
    }

    // ---- 34: restore

    @Says("The ESTUARY is as an IMAGE kept it")
    static void p34_allIsAsItWas() {
        FogSheets x = Tapes.estuary("e7,3,2,13;g4;g1;s1,3,4;o3,1,5;w6,2,1;");
        x.hours(1);
        x.undo();
        x.hours(2);
        x.image(0);
        FogSheets as = Tapes.estuary("e7,3,2,13;g4;g1;s1,3,4;o3,1,5;w6,2,1;", 2);
        x.hours(5);
        x.let(2, 3, 9);
        x.step(1);
        x.wind(0, 0);
        x.wake(0);
        Due.is(x.restore(0), 1);
        as.image(0);
        as.restore(0);
        Due.are(Sight.of(x), Sight.of(as));
        Due.are(new long[] {x.count(3), x.stand(2), x.stand(3), x.wind(0, 1), x.wind(1, 0), x.ask(2, 1)},
            2, 2, 13, 4, 1, 2 + 1 - 1000);
    }

    @Says("(no ACT can be undone then): 1.")
    static void p34_noActCanBeUndone() {
        FogSheets x = Tapes.estuary("e6,1,0,15;g2;o1,1,5;", 3);
        x.image(0);
        x.hours(3);
        Due.are(new long[] {x.restore(0), x.count(6), x.undo(), x.count(3)}, 1, 0, STATE, 3);
        x.hours(1);
        Due.are(new long[] {x.undo(), x.undo(), x.count(3)}, 0, STATE, 3);
    }

    @Says("The ESTUARY is as an IMAGE kept it")
    static void p34_anImageStays() {
        FogSheets x = Tapes.estuary("e6,1,0,15;g2;o1,1,5;", 1);
        x.image(0);
        for (int i = 0; i < 3; i++) {
            x.hours(2);
            x.step(1);
            Due.are(new long[] {x.restore(0), x.count(3), x.stand(2), x.sheet(0, 2)}, 1, 1, 0, 6);
        }
    }

    @Says("The ESTUARY is as an IMAGE kept it")
    static void p34_itOutlivesANewEstuary() {
        FogSheets x = Tapes.estuary("e6,1,0,15;g2;g3;o1,1,5;", 1);
        x.image(1);
        Tapes.read(x, "e7,3,3,3;g0;s6,1,5;s6,1,5;");
        Due.are(new long[] {x.restore(1), x.stand(0), x.count(1), x.count(2), x.count(3), x.kind(0), x.sheet(0, 3)},
            1, 6, 1, 2, 1, 5, 1);
    }

    @Says("The ESTUARY is as an IMAGE kept it")
    static void p34_rowsAndTheTapeStay() {
        FogSheets x = told(LONE, 5);
        x.image(0);
        x.set(0, 0, 4);
        x.row(1, 0, 3);
        x.feed('e');
        x.ask(0, 1);
        x.restore(0);
        Due.are(new long[] {x.count(0), x.count(7), x.who(0, 0, 0, 0, 1), x.trace(0)}, 2, 1, 32, 21);
    }

    @Says("STATE: none was kept.")
    static void p34_noneWasKept() {
        FogSheets x = Tapes.estuary(LONE, 1);
        Due.are(new long[] {x.restore(0), x.restore(1), x.image(1), x.restore(0), x.restore(1)},
            STATE, STATE, 1, STATE, 1);
        Due.is(x.count(3), 1);
    }

    @Says("BAD;")
    static void p34_noSuchImage() {
        FogSheets x = Tapes.estuary(LONE);
        Due.are(new long[] {x.restore(-1), x.restore(2), x.restore(LEAST), x.restore(MOST)}, BAD, BAD, BAD, BAD);
        Sight.changesNothing(y -> {
            y.restore(-1);
            y.restore(2);
        });
    }

    @Says("What is refused, or found, changes nothing but status().")
    static void p34_refusedNothingIsForgotten() {
        FogSheets x = Tapes.estuary(LONE, 2);
        Due.are(new long[] {x.restore(0), x.count(6), x.undo()}, STATE, 2, 1);
    }
}
