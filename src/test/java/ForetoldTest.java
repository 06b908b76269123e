/** Promises 18 to 34: what is foretold, and images. */
public final class ForetoldTest {
    private static final int NONE = FogSheets.NONE, BAD = FogSheets.BAD, STATE = FogSheets.STATE;
    private static final int NULL = -1000011, PLACE = -1000012;

    /** A sheet that goes up a cell an hour, a haar that goes down, an odd one beside the walker. */
    private static final String ESTUARY = "e12,6,5,13;g3;s3,3,6;h9,3,5;o6,1,2;";

    public static void main(String[] args) {
        promise18();
        promise19();
        promise20();
        promise21();
        promise22();
        promise23();
        promise24();
        promise25();
        promise26();
        promise27();
        promise28();
        promise29();
        whoRefuses();
        promise30();
        promise31();
        promise32();
        promise33and34();
        nothingChanges();
        Due.end();
    }

    private static void promise18() {
        FogSheets x = new FogSheets();
        Due.is("18: no estuary", x.ahead(0, 0, 0), BAD);
        Tapes.read(x, ESTUARY);
        Due.is("18: sheet -1", x.ahead(-1, 0, 0), BAD);
        Due.is("18: sheet 3", x.ahead(3, 0, 0), BAD);
        Due.is("18: n -1", x.ahead(0, -1, 0), BAD);
        Due.is("18: n 61", x.ahead(0, 61, 0), BAD);
        Due.is("18: what -1", x.ahead(0, 0, -1), BAD);
        Due.is("18: what 3", x.ahead(0, 0, 3), BAD);
        Due.are("18: now", new long[] {x.ahead(0, 0, 0), x.ahead(0, 0, 1), x.ahead(0, 0, 2)}, 3, 6, 0);
        Due.are("18: an hour", new long[] {x.ahead(0, 1, 0), x.ahead(0, 1, 1), x.ahead(0, 1, 2)}, 4, 6, 1);
        Due.are("18: the odd one is next", new long[] {x.ahead(2, 1, 0), x.ahead(2, 1, 1), x.ahead(2, 1, 2)}, 6, 1, 2);
        Due.are("18: the haar", new long[] {x.ahead(1, 3, 0), x.ahead(1, 3, 1), x.ahead(1, 3, 2)}, 6, 2, 3);
        Due.are("18: gone", new long[] {x.ahead(0, 60, 0), x.ahead(0, 60, 1), x.ahead(0, 60, 2)}, NONE, 0, 1);
    }

    private static void promise19() {
        FogSheets x = new FogSheets();
        Due.is("19: no estuary", x.over(0, 0), BAD);
        Tapes.read(x, ESTUARY);
        Due.is("19: cell -1", x.over(-1, 0), BAD);
        Due.is("19: cell 12", x.over(12, 0), BAD);
        Due.is("19: n -1", x.over(0, -1), BAD);
        Due.is("19: n 61", x.over(0, 61), BAD);
        Due.are("19: 6", new long[] {x.over(6, 0), x.over(6, 1), x.over(6, 2), x.over(6, 3), x.over(6, 60)},
            2, 7, 5, 5 + 2, 0);
    }

    private static void promise20() {
        FogSheets x = new FogSheets();
        Due.is("20: no estuary", x.when(0, 0), BAD);
        Tapes.read(x, "e6,3,0,15;g2;o0,1,9;s3,1,2;w5,1,1;");
        Due.is("20: sheet -1", x.when(-1, 0), BAD);
        Due.is("20: sheet 3", x.when(3, 0), BAD);
        Due.is("20: how -1", x.when(0, -1), BAD);
        Due.is("20: how 2", x.when(0, 2), BAD);
        Due.are("20: never", new long[] {x.when(0, 0), x.when(0, 1), x.when(2, 1)}, NONE, NONE, NONE);
        Due.are("20: gone, numbered", new long[] {x.when(1, 0), x.when(1, 1), x.when(2, 0)}, 4, 1, 1);
        x.hours(1);
        Due.are("20: an hour on", new long[] {x.when(1, 0), x.when(1, 1), x.when(2, 0)}, 3, 0, 0);
    }

    private static void promise21() {
        FogSheets x = new FogSheets();
        Due.is("21: no estuary", x.overlap(0), STATE);
        Due.is("21: that ahead of BAD", x.overlap(2), STATE);
        Tapes.read(x, ESTUARY);
        Due.is("21: -1", x.overlap(-1), BAD);
        Due.is("21: 2", x.overlap(2), BAD);
        Due.are("21: the sheet comes to the odd one", new long[] {x.overlap(0), x.overlap(1)}, 1, 2);
        Tapes.read(x, "e6,0,0,0;g1;s0,3,9;o0,1,9;o5,1,9;s5,1,9;");
        Due.are("21: of several pairs the first", new long[] {x.overlap(0), x.overlap(1)}, 0, 1);
        Tapes.read(x, "e6,0,0,0;g2;o0,1,9;o1,1,9;o5,1,9;h3,1,9;");
        Due.are("21: later", new long[] {x.overlap(0), x.overlap(1)}, 2, 13);
        Tapes.read(x, "e6,0,0,0;g2;o0,1,9;o1,1,9;");
        Due.are("21: never", new long[] {x.overlap(0), x.overlap(1)}, NONE, NONE);
        // Both are beyond the end from then on: the one above 0 alone is on a cell.
        Tapes.read(x, "e6,0,0,0;g0;s4,1,9;b0,2,9;");
        Due.are("21: not beyond an end", new long[] {x.overlap(0), x.overlap(1)}, NONE, NONE);
    }

    private static void promise22() {
        FogSheets x = new FogSheets();
        Due.is("22: no estuary", x.walk(1, -1), STATE);
        Due.is("22: that ahead of BAD", x.walk(0, -2), STATE);
        Tapes.read(x, "e6,0,2,0;g2;o0,3,9;");
        Due.is("22: n 0", x.walk(0, 0), BAD);
        Due.is("22: n 7", x.walk(7, 0), BAD);
        Due.is("22: k -2", x.walk(1, -2), BAD);
        Due.is("22: BAD ahead of NONE", x.walk(7, 9), BAD);
        Due.are("22: up", new long[] {x.walk(1, -1), x.walk(1, 0), x.walk(1, 1), x.walk(1, 999)}, 0, 3, NONE, NONE);
        Due.are("22: three", new long[] {x.walk(3, -1), x.walk(3, 0), x.walk(3, 1), x.walk(3, 2)}, 0, 3, 3, 3);
        x.step(1);
        x.step(1);
        Due.are("22: the first of several", new long[] {x.walk(2, 0), x.walk(2, 1)}, 3, 3);
        x.step(1);
        Due.are("22: at the end", new long[] {x.walk(2, -1), x.walk(2, 0), x.walk(2, 1)}, 0, 4, 3);
        Tapes.read(x, "e6,0,0,0;g2;o0,4,9;o1,5,1;o0,1,2;");
        Due.are("22: through the thinner ones", new long[] {x.walk(6, -1), x.walk(6, 0), x.walk(6, 3), x.walk(6, 5)},
            11 + 12 + 13 + 5 + 6 + 7, 1, 4, 4);
        Due.is("22: a shorter one behind a longer one", x.walk(1, -1), 11);
        Due.is("22: down to the end", Tapes.estuary("e6,0,1,0;g2;o1,5,9;").walk(2, 0), 0);
        Due.is("22: up to the end", Tapes.estuary("e6,0,4,0;g2;o0,5,9;").walk(2, 1), 5);
        Due.is("22: not beyond an end", Tapes.estuary("e6,0,5,0;g2;o4,2,9;").walk(1, -1), 9);
    }

    private static void promise23() {
        FogSheets x = new FogSheets();
        Due.is("23: no estuary", x.meet(0), BAD);
        Tapes.read(x, "e16,0,0,0;g2;o15,1,9;o0,1,9;h5,1,9;w9,1,1;s9,1,9;");
        Due.is("23: -1", x.meet(-1), BAD);
        Due.is("23: 5", x.meet(5), BAD);
        Due.are("23: each", new long[] {x.meet(0), x.meet(1), x.meet(2), x.meet(3), x.meet(4)}, 15, 0, 3, NONE, 9);
        x.hours(2);
        Due.are("23: one is gone", new long[] {x.meet(2), x.meet(3)}, 2, NONE);
        Due.is("23: down to the end", Tapes.estuary("e6,0,5,0;g2;o0,1,9;").meet(0), 5);
    }

    private static void promise24() {
        FogSheets x = new FogSheets();
        Due.is("24: no estuary", x.site(1, 0), STATE);
        Due.is("24: that ahead of BAD", x.site(0, 0), STATE);
        Tapes.read(x, "e6,5,0,1;g2;o1,2,9;o2,2,9;o5,1,9;h3,1,9;");
        Due.is("24: n 0", x.site(0, 0), BAD);
        Due.is("24: n 31", x.site(31, 0), BAD);
        Due.is("24: what -1", x.site(1, -1), BAD);
        Due.is("24: what 2", x.site(1, 2), BAD);
        Due.are("24: on 2", new long[] {x.site(1, 0), x.site(1, 1), x.site(30, 0), x.site(30, 1)}, 2, 3, 2, 3);
        x.hours(1);
        Due.are("24: with the one that has one", new long[] {x.site(3, 0), x.site(3, 1), x.site(30, 0), x.site(30, 1)},
            0, 1, 2, 3);
        x.wake(0);
        Due.are("24: asleep, the first", new long[] {x.site(30, 0), x.site(30, 1)}, 0, 1);
        Tapes.read(x, "e6,5,0,15;g2;o0,1,9;o0,1,9;o3,1,9;");
        Due.are("24: on 0", new long[] {x.site(1, 0), x.site(1, 1)}, 0, 2);
        Tapes.read(x, "e6,0,0,15;g2;o1,1,9;");
        Due.are("24: on 1", new long[] {x.site(1, 0), x.site(1, 1)}, 1, 1);
        Tapes.read(x, "e6,0,0,15;g2;o5,1,9;");
        Due.are("24: on the last", new long[] {x.site(1, 0), x.site(1, 1)}, 5, 1);
    }

    private static void promise25() {
        FogSheets x = new FogSheets();
        Due.is("25: no estuary", x.waking(1, 0), STATE);
        Due.is("25: that ahead of BAD", x.waking(0, 0), STATE);
        Tapes.read(x, "e6,3,0,0;g3;s1,1,9;s0,1,9;");
        Due.is("25: n 0", x.waking(0, 0), BAD);
        Due.is("25: n 31", x.waking(31, 0), BAD);
        Due.is("25: what -1", x.waking(1, -1), BAD);
        Due.is("25: what 2", x.waking(1, 2), BAD);
        Due.are("25: never", new long[] {x.waking(1, 0), x.waking(1, 1)}, 0, 0);
        Due.are("25: for one", new long[] {x.waking(2, 0), x.waking(2, 1)}, 2, 1);
        Due.are("25: for both", new long[] {x.waking(3, 0), x.waking(3, 1)}, 6, 2);
        x.hours(1);
        Due.are("25: by the hour", new long[] {x.waking(1, 0), x.waking(30, 0)}, 2, 6);
        Tapes.read(x, "e6,3,0,0;g3;s1,2,9;s0,2,9;");
        Due.are("25: once for both", new long[] {x.waking(30, 0), x.waking(30, 1)}, 2, 1);
        Tapes.read(x, "e6,3,0,0;g3;s0,3,9;");
        Due.are("25: the least", new long[] {x.waking(1, 0), x.waking(30, 0), x.waking(30, 1)}, 1, 1, 1);
    }

    private static void promise26() {
        FogSheets x = new FogSheets();
        Due.is("26: no estuary", x.meant(0, 0), STATE);
        Due.is("26: that ahead of BAD", x.meant(55, 0), STATE);
        Tapes.read(x, "e6,3,0,0;g3;w0,1,2;s0,1,3;s0,1,5;w0,1,1;");
        Due.is("26: v -1", x.meant(-1, 0), BAD);
        Due.is("26: v 55", x.meant(55, 0), BAD);
        Due.is("26: what -1", x.meant(0, -1), BAD);
        Due.is("26: what 3", x.meant(0, 3), BAD);
        Due.are("26: the empty set", meant(x, 0), 1, 0, 0);
        Due.are("26: 6", meant(x, 6), 2, 8, 15);
        Due.are("26: 11", meant(x, 11), 1, 15, 15);
        Due.are("26: 12", meant(x, 12), 0, 0, 0);
        Due.are("26: 54", meant(x, 54), 0, 0, 0);
        x.hours(1);
        Due.are("26: 1 of those that are in", meant(x, 1), 1, 1, 1);
        Due.are("26: 9", meant(x, 9), 1, 7, 7);
    }

    private static long[] meant(FogSheets x, int v) {
        return new long[] {x.meant(v, 0), x.meant(v, 1), x.meant(v, 2)};
    }

    private static void promise27() {
        FogSheets x = new FogSheets();
        Due.is("27: no estuary", x.share(0, 0), BAD);
        Tapes.read(x, "e16,3,0,0;g2;w0,1,1;s0,1,2;s0,2,3;s0,1,5;");
        Due.is("27: -1", x.share(-1, 0), BAD);
        Due.is("27: 4", x.share(4, 0), BAD);
        Due.is("27: n -1", x.share(0, -1), BAD);
        Due.is("27: n 1000", x.share(0, 1000), BAD);
        // 1, 2, 6 and 5 by 14.
        Due.are("27: 10 of four", shares(x, 10), 1, 2, 4, 3);
        Due.are("27: none", shares(x, 0), 0, 0, 0, 0);
        Due.are("27: 999", shares(x, 999), 72, 143, 428, 356);
        x.hours(1);
        Due.are("27: one is gone", shares(x, 10), 0, 2, 5, 3);
        x.hours(24);
        Due.are("27: all are gone", shares(x, 10), 0, 0, 0, 0);
    }

    private static long[] shares(FogSheets x, int n) {
        return new long[] {x.share(0, n), x.share(1, n), x.share(2, n), x.share(3, n)};
    }

    private static void promise28() {
        FogSheets x = new FogSheets();
        Due.is("28: no estuary", x.byTurns(0, 1), STATE);
        Due.is("28: that ahead of BAD", x.byTurns(5, 1), STATE);
        // It lies on 2 to 4 behind an hour, on 0 to 2 if the wind is turned.
        Tapes.read(x, "e6,0,2,0;g3;s1,3,9;");
        Due.is("28: n -1", x.byTurns(-1, 1), BAD);
        Due.is("28: n 5", x.byTurns(5, 1), BAD);
        Due.is("28: m 0", x.byTurns(0, 0), BAD);
        Due.is("28: m 21", x.byTurns(0, 21), BAD);
        Due.are("28: who has the last word", new long[] {x.byTurns(0, 1), x.byTurns(1, 1), x.byTurns(2, 1),
            x.byTurns(3, 1), x.byTurns(4, 1)}, 9, 0, 9, 0, 9);
        FogSheets mirrored = Tapes.estuary("e6,0,2,0;g1;s1,3,9;");
        Due.are("28: the other way around", new long[] {mirrored.byTurns(0, 1), mirrored.byTurns(1, 1),
            mirrored.byTurns(2, 1), mirrored.byTurns(3, 1), mirrored.byTurns(4, 1)}, 9, 0, 9, 0, 9);
        Due.is("28: down to the end", Tapes.estuary("e6,0,1,0;g2;o1,5,9;").byTurns(1, 1), 0);
        Due.is("28: up to the end", Tapes.estuary("e6,0,4,0;g2;o0,5,9;").byTurns(1, 1), 0);
        Due.is("28: not below the end", Tapes.estuary("e6,0,0,0;g2;o0,2,9;").byTurns(1, 1), 9);
        Due.is("28: not above the end", Tapes.estuary("e6,0,5,0;g2;o4,2,9;").byTurns(1, 1), 9);
        Due.are("28: gone at last", new long[] {x.byTurns(0, 20), x.byTurns(2, 20)}, 0, 0);
        // The walker can't go below 0, the wind that is turned is that of this hour alone.
        Tapes.read(x, "e6,0,0,0;g2;g4;b0,5,9;o0,2,1;");
        Due.are("28: at the end", new long[] {x.byTurns(0, 1), x.byTurns(1, 1), x.byTurns(1, 2)}, 11, 11, 1);
        x.hours(1);
        Due.are("28: this hour's", new long[] {x.byTurns(0, 1), x.byTurns(1, 1), x.byTurns(2, 1), x.byTurns(4, 1)},
            1, 1, 9, 8);
    }

    private static void promise29() {
        FogSheets x = Tapes.estuary("e6,0,2,0;g3;s2,1,5;");
        x.row(0, 0, 4);
        x.set(0, 1, 5);
        x.set(0, 2, 4);
        Due.are("29: kinds", new long[] {x.who(0, 0, 0, 0, 1), x.who(0, 0, 0, 1, 1), x.who(0, 0, 0, 2, 1)}, 26, 4, 32);
        Due.are("29: starts", new long[] {x.who(0, 1, 0, 0, 1), x.who(0, 1, 0, 1, 1), x.who(0, 1, 0, 2, 1)}, 61, 2, 0);
        Due.are("29: thicks", new long[] {x.who(0, 2, 0, 0, 1), x.who(0, 2, 0, 1, 1)}, 1022, 0);
        // Twice in a row: 5, then 4, as a bank has it.
        Due.are("29: two hours", new long[] {x.who(0, 0, 0, 1, 2), x.who(0, 1, 0, 1, 2)}, 4, 0);
        x.row(0, 2, 40);
        Due.are("29: twelve hours", new long[] {x.who(0, 0, 0, 28, 12), x.who(0, 1, 0, 0, 12)}, 26, 60);
        Tapes.read(x, "e6,0,2,0;g2;o2,1,5;o2,1,1;");
        x.set(0, 0, 8);
        Due.are("29: beside another", new long[] {x.who(0, 0, 0, 0, 1), x.who(0, 2, 0, 0, 1), x.who(1, 2, 0, 0, 1)},
            32, 32, 2);
    }

    private static void whoRefuses() {
        FogSheets x = new FogSheets();
        x.row(0, 0, 12);
        Due.is("29: no estuary", x.who(0, 0, 0, 0, 1), BAD);
        Tapes.read(x, "e6,0,2,0;g3;w2,1,1;s2,1,5;");
        Due.is("29: sheet -1", x.who(-1, 0, 0, 0, 1), BAD);
        Due.is("29: sheet 2", x.who(2, 0, 0, 0, 1), BAD);
        Due.is("29: which -1", x.who(0, -1, 0, 0, 1), BAD);
        Due.is("29: which 3", x.who(0, 3, 0, 0, 1), BAD);
        Due.is("29: row -1", x.who(0, 0, -1, 0, 1), BAD);
        Due.is("29: row 8", x.who(0, 0, 8, 0, 1), BAD);
        Due.is("29: n 0", x.who(0, 0, 0, 0, 0), BAD);
        Due.is("29: n 13", x.who(0, 0, 0, 0, 13), BAD);
        Due.is("29: missing", x.who(0, 0, 1, -1, 1), NULL);
        Due.is("29: i -1", x.who(0, 0, 0, -1, 1), PLACE);
        Due.is("29: beyond the end", x.who(0, 0, 0, 1, 12), PLACE);
        Due.is("29: far beyond", x.who(0, 0, 0, Integer.MAX_VALUE, 12), PLACE);
        x.hours(1);
        Due.is("29: gone", x.who(0, 0, 0, 0, 1), STATE);
        Due.is("29: BAD ahead of gone", x.who(0, 0, 0, 0, 0), BAD);
        Due.is("29: gone ahead of missing", x.who(0, 0, 1, 0, 1), STATE);
        Due.is("29: gone ahead of place", x.who(0, 0, 0, 12, 1), STATE);
        Due.is("29: the other one", x.who(1, 0, 0, 0, 1), 46);
    }

    private static void promise30() {
        FogSheets x = new FogSheets();
        x.row(0, 0, 12);
        Due.is("30: no estuary", x.gusts(0, 0, 0, 1), BAD);
        Tapes.read(x, "e6,0,2,0;g3;g2;s2,1,5;");
        Due.is("30: wind -1", x.gusts(-1, 0, 0, 1), BAD);
        Due.is("30: wind 2", x.gusts(2, 0, 0, 1), BAD);
        Due.is("30: row -1", x.gusts(0, -1, 0, 1), BAD);
        Due.is("30: row 8", x.gusts(0, 8, 0, 1), BAD);
        Due.is("30: n 0", x.gusts(0, 0, 0, 0), BAD);
        Due.is("30: n 13", x.gusts(0, 0, 0, 13), BAD);
        Due.is("30: missing", x.gusts(0, 1, -1, 1), NULL);
        Due.is("30: i -1", x.gusts(0, 0, -1, 1), PLACE);
        Due.is("30: beyond the end", x.gusts(0, 0, 1, 12), PLACE);
        Due.is("30: far beyond", x.gusts(0, 0, Integer.MAX_VALUE, 1), PLACE);
        x.set(0, 0, 5);
        x.set(0, 1, 4);
        x.set(0, 3, 4);
        Due.are("30: the first wind", new long[] {x.gusts(0, 0, 0, 1), x.gusts(0, 0, 0, 2), x.gusts(0, 0, 2, 1)},
            4, 4, 27);
        // It is away behind the first hour, and back behind the second.
        Due.are("30: the second wind", new long[] {x.gusts(1, 0, 2, 1), x.gusts(1, 0, 2, 2), x.gusts(1, 0, 0, 1)},
            31, 2, 0);
    }

    private static void promise31() {
        FogSheets x = new FogSheets();
        Due.is("31: no estuary", x.lift(0, 0, 0, 0), BAD);
        Tapes.read(x, "e6,0,2,0;g2;o0,5,9;o0,4,9;o0,3,9;o0,2,9;o0,1,9;w0,1,1;");
        Due.is("31: cell -1", x.lift(-1, 0, 0, 0), BAD);
        Due.is("31: cell 6", x.lift(6, 0, 0, 0), BAD);
        Due.is("31: n -1", x.lift(0, -1, 0, 0), BAD);
        Due.is("31: n 61", x.lift(0, 61, 0, 0), BAD);
        Due.is("31: p -1", x.lift(0, 0, -1, 0), BAD);
        Due.is("31: p 11", x.lift(0, 0, 11, 0), BAD);
        Due.is("31: what -1", x.lift(0, 0, 0, -1), BAD);
        Due.is("31: what 2", x.lift(0, 0, 0, 2), BAD);
        Due.are("31: clear by itself", lift(x, 5, 60, 0), 1, 1);
        Due.are("31: never", lift(x, 4, 0, 0), 0, 1);
        Due.are("31: for sure", lift(x, 0, 0, 10), 1, 1);
        Due.are("31: six, 3 of 10", lift(x, 0, 0, 3), 729, 1000000);
        Due.are("31: five then", lift(x, 0, 1, 3), 243, 100000);
        Due.are("31: six, 5 of 10", lift(x, 0, 0, 5), 1, 64);
        Due.are("31: two, 8 of 10", lift(x, 3, 60, 8), 16, 25);
    }

    private static long[] lift(FogSheets x, int cell, int n, int p) {
        return new long[] {x.lift(cell, n, p, 0), x.lift(cell, n, p, 1)};
    }

    private static void promise32() {
        FogSheets x = new FogSheets();
        Due.is("32: no estuary", x.drawn(0, 1, 0), STATE);
        Due.is("32: that ahead of BAD", x.drawn(61, 1, 0), STATE);
        Tapes.read(x, "e6,1,0,15;g2;w5,1,1;");
        Due.is("32: n -1", x.drawn(-1, 1, 0), BAD);
        Due.is("32: n 61", x.drawn(61, 1, 0), BAD);
        Due.is("32: seed 0", x.drawn(0, 0, 0), BAD);
        Due.is("32: seed 1000000", x.drawn(0, 1000000, 0), BAD);
        Due.is("32: what -1", x.drawn(0, 1, -1), BAD);
        Due.is("32: what 2", x.drawn(0, 1, 2), BAD);
        x.hours(1);
        Due.are("32: no hours", new long[] {x.drawn(0, 1, 0), x.drawn(0, 999999, 1)}, 0, 0);
        // X is 16807: the wind stays, the wisp comes in at 1, 5 thick.
        Due.are("32: seed 1", new long[] {x.drawn(1, 1, 0), x.drawn(1, 1, 1)}, 1, 3);
        // X is 50421: the wind is 1, the wisp comes in at 3, 4 thick.
        Due.are("32: seed 3", new long[] {x.drawn(1, 3, 0), x.drawn(1, 3, 1)}, 1, 2);
        // Then X is 282475249, which leaves the wisp that is in as it is, 3 thick, less 1 in an even hour.
        Due.are("32: two hours", new long[] {x.drawn(2, 1, 0), x.drawn(2, 1, 1)}, 1, 3 + 2);
        Due.is("32: it is gone yet", x.stand(4), 0);
    }

    private static void promise33and34() {
        FogSheets x = new FogSheets();
        Due.is("33: no estuary", x.image(0), STATE);
        Due.is("33: BAD ahead of that", x.image(2), BAD);
        Due.is("34: none was kept", x.restore(0), STATE);
        Due.is("34: BAD ahead of that", x.restore(2), BAD);
        Tapes.read(x, "e6,1,0,15;g2;g3;o1,1,5;");
        Due.is("33: -1", x.image(-1), BAD);
        Due.is("34: -1", x.restore(-1), BAD);
        x.hours(1);
        Due.is("33: kept", x.image(0), 1);
        Due.is("33: no act", x.count(6), 1);
        Due.is("34: the other one was not", x.restore(1), STATE);
        x.hours(1);
        x.step(1);
        x.wind(0, 4);
        x.wake(0);
        Due.is("33: the other", x.image(1), 1);
        Tapes.read(x, "e7,3,3,3;g0;s6,1,5;s6,1,5;");
        Due.is("34: restored", x.restore(0), 1);
        Due.are("34: as it was kept", new long[] {x.stand(0), x.stand(1), x.stand(2), x.stand(3), x.stand(4),
            x.stand(5), x.stand(6), x.stand(7), x.count(1), x.count(2), x.count(3), x.count(6)},
            6, 1, 0, 15, 1, 1, 2, 3, 1, 2, 1, 0);
        Due.are("34: its sheet", new long[] {x.sheet(0, 0), x.sheet(0, 1), x.sheet(0, 2), x.sheet(0, 3), x.kind(0)},
            1, 1, 6, 1, 5);
        Due.is("34: no act", x.undo(), STATE);
        x.hours(3);
        Due.is("34: the other", x.restore(1), 1);
        Due.are("34: no hour can be undone", new long[] {x.count(6), x.undo()}, 0, STATE);
        Due.are("34: as the other was", new long[] {x.stand(2), x.stand(3), x.stand(7), x.count(3), x.sheet(0, 2)},
            1, 0, 4, 2, 5);
        x.hours(3);
        Due.is("34: again", x.restore(0), 1);
        Due.are("34: an image stays", new long[] {x.count(3), x.sheet(0, 2)}, 1, 6);
    }

    private static void nothingChanges() {
        FogSheets x = Tapes.estuary(ESTUARY);
        x.hours(1);
        x.row(0, 0, 3);
        long[] ahead = all(x);
        x.ahead(0, 9, 0);
        x.over(0, 9);
        x.when(0, 0);
        x.overlap(0);
        x.walk(6, -1);
        x.meet(0);
        x.site(30, 0);
        x.waking(30, 0);
        x.meant(9, 0);
        x.share(0, 9);
        x.byTurns(4, 9);
        for (int which = 0; which < 3; which++) {
            x.who(0, which, 0, 0, 3);
        }
        x.gusts(0, 0, 0, 3);
        x.lift(0, 9, 5, 0);
        x.drawn(60, 9, 0);
        Due.are("18 to 32: nothing changes", all(x), ahead);
    }

    private static long[] all(FogSheets x) {
        long[] all = new long[8 + 8 + 15];
        for (int what = 0; what < 8; what++) {
            all[what] = x.stand(what);
            all[8 + what] = x.count(what);
        }
        for (int i = 0; i < 15; i++) {
            all[16 + i] = x.sheet(i / 5, i % 5);
        }
        return all;
    }
}
