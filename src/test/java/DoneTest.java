import java.util.ArrayDeque;
import java.util.Arrays;
import java.util.Deque;
import java.util.function.Consumer;

/** Promises 9 to 17: acts, what undoes them, hours, and what is where; each sentence by itself. */
public final class DoneTest {
    private static final int NONE = FogSheets.NONE, BAD = FogSheets.BAD, STATE = FogSheets.STATE;
    private static final int FULL = FogSheets.FULL;
    private static final int LEAST = Integer.MIN_VALUE, MOST = Integer.MAX_VALUE;

    public static void main(String[] args) {
        Cases.run(DoneTest.class);
    }

    private static long[] sheet(FogSheets x, int sheet) {
        long[] all = new long[5];
        for (int what = 0; what < 5; what++) {
            all[what] = x.sheet(sheet, what);
        }
        return all;
    }

    /** AT, or THICK, of sheet 0 behind each of some hours. */
    private static long[] byHours(FogSheets x, int what, int hours) {
        long[] seen = new long[hours];
        for (int i = 0; i < hours; i++) {
            x.hours(1);
            seen[i] = x.sheet(0, what);
        }
        return seen;
    }

    /** AT of a lone sheet at 8 of 16, behind an hour of each wind. */
    private static long[] driftsTo(String sort) {
        long[] at = new long[5];
        for (int v = 0; v <= 4; v++) {
            at[v] = Tapes.estuary("e16,0,0,0;g" + v + ";" + sort + "8,1,9;", 1).sheet(0, 0);
        }
        return at;
    }

    // ---- 9: undo

    @Says("STATE: none.")
    static void p09_noneAtFirst() {
        Due.is(new FogSheets().undo(), STATE);
        Due.is(Tapes.estuary("e6,0,0,0;g2;s0,1,1;").undo(), STATE);
    }

    @Says("STATE: none.")
    static void p09_noneIsLeft() {
        FogSheets x = Tapes.estuary("e6,0,0,0;g2;s0,1,1;", 1);
        Due.are(new long[] {x.undo(), x.undo(), x.undo(), x.count(6)}, 0, STATE, STATE, 0);
        x.hours(1);
        Due.is(x.undo(), 0);
    }

    @Says("The latest ACT is undone: how many can be undone yet.")
    static void p09_howManyYet() {
        FogSheets x = Tapes.estuary("e6,0,2,0;g2;o0,1,5;", 2);
        x.step(1);
        x.wake(7);
        Due.are(new long[] {x.undo(), x.undo(), x.undo(), x.undo(), x.undo()}, 3, 2, 1, 0, STATE);
    }

    private static void undone(Consumer<FogSheets> act) {
        FogSheets x = Sight.made();
        long[] before = Sight.of(x);
        int acts = x.count(6);
        act.accept(x);
        Due.is("it is an act", x.count(6), acts + 1);
        Due.is("it changes something", Arrays.equals(before, Sight.of(x)) ? 1 : 0, 0);
        Due.is("undo", x.undo(), acts);
        Due.are("as before", Sight.of(x), before);
    }

    @Says("ACTS (24 at most are kept, of more the oldest is forgotten; each can be undone, the latest first): an HOUR;")
    static void p09_anHourIsUndone() {
        undone(x -> x.hours(1));
    }

    @Says("an HOUR;")
    static void p09_allOfAnHourIsUndone() {
        FogSheets x = Tapes.estuary("e6,0,2,15;g3;o0,1,5;w5,1,1;s0,2,6;b4,1,1;");
        long[] before = Sight.of(x);
        Due.is(x.hours(1), 1);
        Due.are(new long[] {x.stand(4), x.sheet(0, 2), x.sheet(2, 0), x.count(3)}, 13, 4, 1, 1);
        Due.is(x.undo(), 0);
        Due.are(Sight.of(x), before);
    }

    @Says("the walker goes to a CELL beside the own")
    static void p09_aStepIsUndone() {
        undone(x -> x.step(0));
        undone(x -> x.step(1));
    }

    @Says("a WIND, AWAKE is another")
    static void p09_aWindIsUndone() {
        undone(x -> x.wind(1, 0));
        FogSheets x = Tapes.estuary("e6,0,0,0;g3;g1;s0,1,1;");
        x.wind(1, 4);
        x.undo();
        Due.are(new long[] {x.wind(0, 0), x.wind(1, 0)}, 3, 1);
    }

    @Says("a WIND, AWAKE is another")
    static void p09_awakeIsUndone() {
        undone(x -> x.wake(0));
    }

    @Says("a SHEET that is GONE is let in")
    static void p09_lettingInIsUndone() {
        undone(x -> x.let(2, 3, 9));
        FogSheets x = Tapes.estuary("e6,0,0,0;g2;w5,1,1;", 1);
        x.let(0, 0, 9);
        x.undo();
        Due.are(new long[] {x.sheet(0, 0), x.ask(0, 1), x.stand(4)}, NONE, 1 - 1000, 0);
    }

    @Says("each can be undone, the latest first")
    static void p09_theLatestFirst() {
        FogSheets x = Tapes.estuary("e6,0,2,3;g3;o0,1,5;");
        x.step(1);
        x.wake(9);
        x.wind(0, 0);
        x.wake(5);
        x.undo();
        Due.are(new long[] {x.stand(2), x.stand(3), x.stand(7)}, 3, 9, 0);
        x.undo();
        Due.are(new long[] {x.stand(2), x.stand(3), x.stand(7)}, 3, 9, 3);
        x.undo();
        Due.are(new long[] {x.stand(2), x.stand(3), x.stand(7)}, 3, 3, 3);
        x.undo();
        Due.are(new long[] {x.stand(2), x.stand(3), x.stand(7)}, 2, 3, 3);
    }

    @Says("(24 at most are kept, of more the oldest is forgotten;")
    static void p09_24AtMost() {
        FogSheets x = Tapes.estuary("e6,0,2,0;g2;o0,1,5;");
        for (int i = 1; i <= 24; i++) {
            x.wake(i % 16);
            Due.is("acts", x.count(6), i);
        }
        x.wake(9);
        Due.is(x.count(6), 24);
        for (int left = 23; left >= 0; left--) {
            Due.is("undo to " + left, x.undo(), left);
        }
        Due.are(new long[] {x.undo(), x.stand(3)}, STATE, 1);
    }

    @Says("of more the oldest is forgotten")
    static void p09_24HoursForgetAStep() {
        FogSheets x = Tapes.estuary("e6,0,2,0;g2;o0,1,5;");
        x.step(1);
        x.hours(24);
        for (int i = 0; i < 24; i++) {
            x.undo();
        }
        Due.are(new long[] {x.count(3), x.stand(2), x.undo()}, 0, 3, STATE);
    }

    @Says("each can be undone, the latest first")
    static void p09_manyTimesAround() {
        FogSheets x = Tapes.estuary("e6,0,2,0;g2;o0,1,5;");
        Deque<Integer> before = new ArrayDeque<>();
        int awake = 0;
        for (int i = 0; i < 200; i++) {
            if (i % 11 < 7) {
                before.push(awake);
                awake = i % 16;
                x.wake(awake);
                if (before.size() > 24) {
                    before.removeLast();
                }
            } else {
                awake = before.pop();
                Due.is("undo " + i, x.undo(), before.size());
            }
            Due.is("awake " + i, x.stand(3), awake);
        }
    }

    @Says("What is refused, or found, changes nothing but status().")
    static void p09_whatIsRefusedIsNoAct() {
        FogSheets x = Tapes.estuary("e6,0,0,0;g2;o0,1,5;", 1);
        x.step(0);
        x.step(9);
        x.wind(0, 9);
        x.wind(1, 0);
        x.wake(16);
        x.hours(0);
        x.hours(25);
        x.let(0, 0, 1);
        x.let(1, 0, 1);
        x.set(0, 0, 0);
        Due.are(new long[] {x.count(6), x.undo(), x.undo()}, 1, 0, STATE);
    }

    @Says("ACTS (")
    static void p09_whatChangesNothingIsNoAct() {
        FogSheets x = Tapes.estuary("e6,0,0,0;g2;o0,1,5;", 1);
        x.image(0);
        x.row(0, 0, 5);
        x.feed('e');
        x.ask(0, 0);
        x.as(0, 0);
        x.walk(5, 0);
        x.drawn(5, 5, 0);
        Due.is(x.count(6), 1);
    }

    // ---- 10: hours

    @Says("n HOURS (1 to 24), an ACT each")
    static void p10_from1To24() {
        FogSheets x = Tapes.estuary("e6,0,0,0;g2;o0,1,5;");
        Due.are(new long[] {x.hours(1), x.count(3), x.hours(24), x.count(3)}, 0, 1, 0, 25);
    }

    @Says("an ACT each")
    static void p10_anActEach() {
        FogSheets x = Tapes.estuary("e6,0,0,0;g2;o0,1,5;", 5);
        Due.are(new long[] {x.count(6), x.undo(), x.count(3), x.undo(), x.count(3)}, 5, 4, 4, 3, 3);
    }

    @Says("n HOURS (1 to 24), an ACT each")
    static void p10_manyAreAsOneByOne() {
        String text = "e16,9,8,6;g4;g2;g1;s5,2,9;b7,1,8;w3,2,9;h15,3,9;o9,1,4;";
        FogSheets x = Tapes.estuary(text, 7);
        FogSheets y = Tapes.estuary(text);
        for (int i = 0; i < 7; i++) {
            y.hours(1);
        }
        Due.are(Sight.of(x), Sight.of(y));
    }

    @Says("how many have a NUMBER then.")
    static void p10_howManyHaveANumber() {
        FogSheets x = Tapes.estuary("e6,0,0,15;g2;h1,1,9;h2,1,9;h3,1,9;o5,1,9;");
        Due.are(new long[] {x.hours(1), x.hours(1), x.hours(1), x.hours(1)}, 1, 2, 3, 3);
    }

    @Says("BAD;")
    static void p10_notSoMany() {
        FogSheets x = Tapes.estuary("e6,0,0,0;g2;o0,1,5;");
        Due.are(new long[] {x.hours(0), x.hours(25), x.hours(-1), x.hours(LEAST), x.hours(MOST), x.count(3)},
            BAD, BAD, BAD, BAD, BAD, 0);
    }

    @Says("STATE: no ESTUARY (ahead of BAD)")
    static void p10_noEstuary() {
        FogSheets x = new FogSheets();
        Due.are(new long[] {x.hours(1), x.hours(0), x.hours(25)}, STATE, STATE, STATE);
    }

    @Says("FULL: HOUR would be above 999.")
    static void p10_999IsTheLast() {
        FogSheets x = Tapes.estuary("e6,0,0,0;g2;o0,1,5;", 975);
        Due.are(new long[] {x.count(3), x.hours(24), x.count(3), x.hours(1), x.hours(24)}, 975, 0, 999, FULL, FULL);
        x.undo();
        Due.are(new long[] {x.hours(2), x.hours(1), x.count(3)}, FULL, 0, 999);
    }

    @Says("FULL: HOUR would be above 999.")
    static void p10_fullNoHourPasses() {
        FogSheets x = Tapes.estuary("e6,0,0,0;g2;o0,1,5;", 976);
        Due.are(new long[] {x.hours(24), x.count(3), x.hours(23), x.count(3)}, FULL, 976, 0, 999);
    }

    @Says("Refusals are answers, the first of these that fits, but as told")
    static void p10_badAheadOfFull() {
        FogSheets x = Tapes.estuary("e6,0,0,0;g2;o0,1,5;", 999);
        Due.are(new long[] {x.hours(25), x.hours(0), x.hours(1)}, BAD, BAD, FULL);
    }

    @Says("FULL: HOUR would be above 999.")
    static void p10_otherActsAtHour999() {
        FogSheets x = Tapes.estuary("e6,0,0,0;g2;o0,1,5;", 999);
        Due.are(new long[] {x.step(1), x.wind(0, 1), x.wake(1), x.count(3)}, 1, 2, 0, 999);
    }

    @Says("What is refused, or found, changes nothing but status().")
    static void p10_refusedNothingChanges() {
        Sight.changesNothing(y -> {
            y.hours(0);
            y.hours(25);
        });
    }

    @Says({"2 more than so many CELLS up: 0 two down, 2 a calm, 4 two up", "a sheet by these"})
    static void p10_aSheetDrifts() {
        Due.are(driftsTo("s"), 6, 7, 8, 9, 10);
    }

    @Says("THICK is 1 less in HOURS that are odd")
    static void p10_aSheetThinsInOddHours() {
        for (int v = 0; v <= 4; v += 2) {
            Due.are("wind " + v, byHours(Tapes.estuary("e16,0,0,0;g" + v + ";g" + (4 - v) + ";s8,1,5;"), 2, 6),
                5, 4, 4, 3, 3, 2);
        }
    }

    @Says({"a bank by half of them (cut)", "All that is divided is cut towards 0"})
    static void p10_aBankDriftsByHalf() {
        Due.are(driftsTo("b"), 7, 8, 8, 8, 9);
    }

    @Says("THICK as a sheet's; a wisp")
    static void p10_aBankThinsInOddHours() {
        Due.are(byHours(Tapes.estuary("e16,0,0,0;g1;g4;b8,1,5;"), 2, 6), 5, 4, 4, 3, 3, 2);
    }

    @Says("a wisp by twice as many")
    static void p10_aWispDriftsTwiceAsFar() {
        Due.are(driftsTo("w"), 4, 6, 8, 10, 12);
    }

    @Says("THICK as a sheet's, and 1 less;")
    static void p10_aWispThinsInEachHour() {
        Due.are(byHours(Tapes.estuary("e16,0,0,0;g2;w8,1,9;"), 2, 6), 8, 6, 5, 3, 2, 0);
        Due.are(byHours(Tapes.estuary("e16,0,0,0;g4;g0;w8,1,9;"), 2, 3), 8, 6, 5);
    }

    @Says("a haar one CELL down whatever the WIND")
    static void p10_aHaarDriftsDown() {
        Due.are(driftsTo("h"), 7, 7, 7, 7, 7);
    }

    @Says("THICK 1 less but in a calm")
    static void p10_aHaarThinsUnlessCalm() {
        for (int v = 0; v <= 4; v++) {
            Due.are("wind " + v, byHours(Tapes.estuary("e16,0,0,0;g2;g2;g" + v + ";g" + v + ";h8,1,5;"), 2, 4),
                5, 5, v == 2 ? 5 : 4, v == 2 ? 5 : 3);
        }
    }

    @Says("one of the odd not at all")
    static void p10_anOddOneStays() {
        Due.are(driftsTo("o"), 8, 8, 8, 8, 8);
    }

    @Says("THICK as a haar's, but in a calm 1 more")
    static void p10_anOddOneThickensInACalm() {
        Due.are(byHours(Tapes.estuary("e16,0,0,0;g2;g2;g0;g1;g3;g4;o8,1,5;"), 2, 6), 6, 7, 6, 5, 4, 3);
    }

    @Says("(9 at most)")
    static void p10_anOddOneIs9ThickAtMost() {
        Due.are(byHours(Tapes.estuary("e16,0,0,0;g2;g2;g2;g0;o8,1,8;"), 2, 5), 9, 9, 9, 8, 9);
    }

    @Says("that of an HOUR is that of the HOUR by how many there are left over)")
    static void p10_theWindsComeAround() {
        Due.are(byHours(Tapes.estuary("e16,0,0,0;g4;g2;g1;s5,1,9;"), 0, 7), 7, 7, 6, 8, 8, 7, 9);
        Due.are(byHours(Tapes.estuary("e16,0,0,0;g4;g2;g2;g2;g2;g0;s5,1,9;"), 0, 8), 7, 7, 7, 7, 7, 5, 7, 7);
    }

    @Says({"In an HOUR each that is IN drifts by so many CELLS as the WIND tells", "A SHEET is IN, or GONE."})
    static void p10_oneThatIsGoneDriftsNoMore() {
        FogSheets x = Tapes.estuary("e6,0,0,0;g1;g3;s0,1,9;s3,1,9;");
        x.hours(1);
        Due.is(x.stand(4), 2);
        x.hours(1);
        Due.are(new long[] {x.stand(4), x.sheet(0, 0), x.sheet(1, 0), x.ask(0, 1)}, 2, NONE, 3, 9);
    }

    @Says("One that lies on no CELL then")
    static void p10_goneBeyondTheLowerEnd() {
        FogSheets x = Tapes.estuary("e6,0,0,0;g1;s0,1,9;s0,2,9;s0,3,9;s1,1,9;");
        x.hours(1);
        Due.is(x.stand(4), 14);
        x.hours(1);
        Due.is(x.stand(4), 4);
        x.hours(1);
        Due.is(x.stand(4), 0);
    }

    @Says("One that lies on no CELL then")
    static void p10_goneBeyondTheUpperEnd() {
        FogSheets x = Tapes.estuary("e6,0,0,0;g3;s5,5,9;s4,5,9;w4,1,9;w3,1,9;");
        x.hours(1);
        Due.are(new long[] {x.stand(4), x.sheet(1, 0), x.sheet(3, 0)}, 10, 5, 5);
        FogSheets y = Tapes.estuary("e16,0,0,0;g4;s14,1,9;s13,1,9;w12,5,9;w11,5,9;b15,5,9;b14,5,9;");
        y.hours(1);
        Due.is(y.stand(4), 2 + 8 + 32);
    }

    @Says("or has THICK 0 or less, is GONE")
    static void p10_goneWithThick0() {
        FogSheets x = Tapes.estuary("e16,0,0,0;g2;s8,1,1;b8,1,1;w8,1,1;w8,1,3;s8,1,2;");
        x.hours(1);
        Due.is(x.stand(4), 1 + 2 + 8 + 16);
        x.hours(1);
        Due.is(x.stand(4), 16);
    }

    @Says("or has THICK 0 or less, is GONE")
    static void p10_goneWithThickBelow0() {
        FogSheets x = Tapes.estuary("e16,0,0,0;g2;w8,1,2;w8,1,4;");
        x.hours(2);
        Due.are(new long[] {x.stand(4), x.sheet(0, 2), x.sheet(1, 2)}, 2, 0, 1);
    }

    @Says("or has THICK 0 or less, is GONE")
    static void p10_haarsAndTheOddGo() {
        FogSheets x = Tapes.estuary("e6,0,0,0;g4;h5,1,1;h5,1,2;o5,1,1;o5,1,2;");
        x.hours(1);
        Due.is(x.stand(4), 2 + 8);
        x.hours(1);
        Due.is(x.stand(4), 0);
    }

    @Says("(AT and THICK stay as they were ahead of that HOUR).")
    static void p10_gonesThickIsAsItWasAhead() {
        FogSheets x = Tapes.estuary("e6,0,0,0;g2;g1;s0,1,6;s3,1,1;w3,1,4;");
        x.hours(2);
        Due.are(new long[] {x.stand(4), x.ask(0, 1), x.ask(1, 1)}, 4, 6, 1 + 1);
        x.hours(1);
        Due.are(new long[] {x.stand(4), x.ask(2, 1)}, 0, 2 + 1 - 1000);
    }

    @Says("Then, if the clerk is awake in this HOUR")
    static void p10_asleepNobodyGetsOne() {
        FogSheets x = Tapes.estuary("e6,3,0,0;g2;o3,1,9;");
        Due.are(new long[] {x.hours(24), x.sheet(0, 3), x.stand(5), x.stand(6)}, 0, 0, 0, 1);
    }

    @Says("bits 0 to 3: whether the clerk is awake in HOURS that leave 0 to 3 by 4")
    static void p10_awakeByFours() {
        for (int quarter = 0; quarter < 4; quarter++) {
            FogSheets x = Tapes.estuary("e6,3,0," + (1 << quarter) + ";g2;o3,1,9;w0,1,1;");
            for (int hour = 0; hour < 4; hour++) {
                Due.is("bit " + quarter + ", hour " + hour, x.hours(1), hour >= quarter ? 1 : 0);
            }
            x.let(1, 3, 9);
            for (int hour = 4; hour < 8; hour++) {
                Due.is("bit " + quarter + ", hour " + hour, x.hours(1), hour - 4 >= quarter ? 2 : 1);
            }
        }
    }

    @Says("each that is IN, lies on the POINT and has no NUMBER yet gets the next one")
    static void p10_behindTheDrift() {
        FogSheets x = Tapes.estuary("e6,3,0,15;g3;s2,1,9;s3,1,9;s1,2,9;s0,2,9;");
        Due.are(new long[] {x.hours(1), x.sheet(0, 3), x.sheet(1, 3), x.sheet(2, 3), x.sheet(3, 3)}, 2, 1, 0, 2, 0);
    }

    @Says("each that is IN, lies on the POINT")
    static void p10_oneThatIsGoneThenGetsNone() {
        FogSheets x = Tapes.estuary("e6,3,0,15;g2;w3,1,1;s3,1,1;");
        Due.are(new long[] {x.hours(1), x.sheet(0, 3), x.sheet(1, 3), x.hours(1)}, 1, 0, 1, 1);
    }

    @Says("(the first 1; in the order of SHEETS)")
    static void p10_inTheOrderOfSheets() {
        FogSheets x = Tapes.estuary("e6,3,0,15;g2;h5,1,9;h4,1,9;o3,1,9;o0,1,9;o0,4,9;");
        Due.are(new long[] {x.hours(1), x.sheet(0, 3), x.sheet(1, 3), x.sheet(2, 3), x.sheet(3, 3), x.sheet(4, 3)},
            3, 0, 1, 2, 0, 3);
        Due.are(new long[] {x.hours(1), x.sheet(0, 3)}, 4, 4);
    }

    @Says("a NUMBER stays.")
    static void p10_aNumberStays() {
        FogSheets x = Tapes.estuary("e6,3,0,15;g4;s1,1,9;o3,1,3;");
        x.hours(1);
        Due.are(new long[] {x.sheet(0, 3), x.sheet(1, 3)}, 1, 2);
        x.hours(24);
        Due.are(new long[] {x.stand(4), x.sheet(0, 3), x.sheet(1, 3), x.count(4), x.stand(6)}, 0, 1, 2, 2, 3);
        x.let(1, 3, 9);
        Due.are(new long[] {x.hours(1), x.sheet(1, 3), x.stand(6)}, 2, 2, 3);
    }

    @Says("HOUR is 1 more.")
    static void p10_theHourIs1More() {
        FogSheets x = Tapes.estuary("e6,3,0,0;g4;s0,1,1;");
        x.hours(1);
        Due.is(x.count(3), 1);
        x.hours(3);
        Due.is(x.count(3), 4);
    }

    @Says("In an HOUR each that is IN drifts")
    static void p10_anHourWithNobodyIn() {
        FogSheets x = Tapes.estuary("e6,3,0,15;g4;w5,1,1;", 1);
        Due.are(new long[] {x.stand(4), x.hours(24), x.count(3), x.stand(4)}, 0, 0, 25, 0);
    }

    @Says("In an HOUR each that is IN drifts")
    static void p10_theWalkerAndThePointStay() {
        FogSheets x = Tapes.estuary("e6,3,2,15;g4;s0,5,9;", 3);
        Due.are(new long[] {x.stand(0), x.stand(1), x.stand(2), x.stand(3)}, 6, 3, 2, 15);
    }

    // ---- 11: step

    @Says("The walker goes down (0), up (1): the CELL then.")
    static void p11_downAndUp() {
        FogSheets x = Tapes.estuary("e6,0,3,0;g2;o0,1,9;");
        Due.are(new long[] {x.step(0), x.step(0), x.step(1), x.stand(2), x.count(6)}, 2, 1, 2, 2, 3);
    }

    @Says("BAD;")
    static void p11_noSuchWay() {
        FogSheets x = Tapes.estuary("e6,0,3,0;g2;o0,1,9;");
        Due.are(new long[] {x.step(-1), x.step(2), x.step(LEAST), x.step(MOST), x.stand(2)}, BAD, BAD, BAD, BAD, 3);
    }

    @Says("STATE: no ESTUARY (ahead of BAD)")
    static void p11_noEstuary() {
        FogSheets x = new FogSheets();
        Due.are(new long[] {x.step(0), x.step(1), x.step(2), x.step(-1)}, STATE, STATE, STATE, STATE);
    }

    @Says("there is no such CELL.")
    static void p11_notBeyondTheLowerEnd() {
        FogSheets x = Tapes.estuary("e6,0,1,0;g2;o0,1,9;");
        Due.are(new long[] {x.step(0), x.step(0), x.stand(2), x.count(6)}, 0, STATE, 0, 1);
    }

    @Says("there is no such CELL.")
    static void p11_notBeyondTheUpperEnd() {
        FogSheets x = Tapes.estuary("e6,0,4,0;g2;o0,1,9;");
        Due.are(new long[] {x.step(1), x.step(1), x.stand(2), x.count(6)}, 5, STATE, 5, 1);
        FogSheets y = Tapes.estuary("e16,0,14,0;g2;o0,1,9;");
        Due.are(new long[] {y.step(1), y.step(1), y.stand(2)}, 15, STATE, 15);
    }

    @Says("BAD; STATE")
    static void p11_badAheadOfNoSuchCell() {
        FogSheets x = Tapes.estuary("e6,0,5,0;g2;o0,1,9;");
        Due.are(new long[] {x.step(2), x.step(1)}, BAD, STATE);
    }

    @Says("What is refused, or found, changes nothing but status().")
    static void p11_refusedNothingChanges() {
        Sight.changesNothing(y -> {
            y.step(2);
            y.step(-1);
        });
    }

    // ---- 12: wind

    @Says("A WIND (0 to 4): what it was.")
    static void p12_whatItWas() {
        FogSheets x = Tapes.estuary("e6,0,1,0;g2;g1;o0,1,9;");
        Due.are(new long[] {x.wind(0, 4), x.wind(0, 0), x.wind(1, 3), x.wind(1, 1), x.stand(7)}, 2, 4, 1, 3, 0);
    }

    @Says("A WIND (0 to 4)")
    static void p12_itBlowsFromThenOn() {
        FogSheets x = Tapes.estuary("e16,0,1,0;g2;g2;s5,1,9;");
        x.wind(1, 4);
        x.hours(1);
        Due.are(new long[] {x.sheet(0, 0), x.stand(7)}, 5, 4);
        x.hours(3);
        Due.is(x.sheet(0, 0), 9);
    }

    @Says("BAD.")
    static void p12_noSuchWind() {
        FogSheets x = Tapes.estuary("e6,0,1,0;g2;g1;o0,1,9;");
        Due.are(new long[] {x.wind(-1, 0), x.wind(2, 0), x.wind(5, 0), x.wind(LEAST, 0), x.wind(MOST, 0), x.count(6)},
            BAD, BAD, BAD, BAD, BAD, 0);
    }

    @Says("BAD.")
    static void p12_noSuchStrength() {
        FogSheets x = Tapes.estuary("e6,0,1,0;g2;g1;o0,1,9;");
        Due.are(new long[] {x.wind(0, -1), x.wind(0, 5), x.wind(0, LEAST), x.wind(0, MOST), x.count(6), x.stand(7)},
            BAD, BAD, BAD, BAD, 0, 2);
    }

    @Says("BAD.")
    static void p12_noEstuaryNoWind() {
        FogSheets x = new FogSheets();
        Due.are(new long[] {x.wind(0, 0), x.wind(0, 5)}, BAD, BAD);
    }

    @Says("a WIND, AWAKE is another")
    static void p12_theSameIsAnActToo() {
        FogSheets x = Tapes.estuary("e6,0,1,0;g2;o0,1,9;");
        Due.are(new long[] {x.wind(0, 2), x.count(6), x.undo(), x.stand(7)}, 2, 1, 0, 2);
    }

    @Says("What is refused, or found, changes nothing but status().")
    static void p12_refusedNothingChanges() {
        Sight.changesNothing(y -> {
            y.wind(2, 0);
            y.wind(0, 5);
            y.wind(-1, -1);
        });
    }

    // ---- 13: wake

    @Says("AWAKE (0 to 15): what it was.")
    static void p13_whatItWas() {
        FogSheets x = Tapes.estuary("e6,0,1,9;g2;o0,1,9;");
        Due.are(new long[] {x.wake(15), x.wake(0), x.wake(6), x.stand(3), x.count(6)}, 9, 15, 0, 6, 3);
    }

    @Says("AWAKE (0 to 15)")
    static void p13_theClerkWakesByIt() {
        FogSheets x = Tapes.estuary("e6,0,1,0;g2;o0,1,9;", 1);
        x.wake(2);
        Due.is(x.hours(1), 1);
    }

    @Says("BAD;")
    static void p13_noSuchAwake() {
        FogSheets x = Tapes.estuary("e6,0,1,9;g2;o0,1,9;");
        Due.are(new long[] {x.wake(-1), x.wake(16), x.wake(LEAST), x.wake(MOST), x.stand(3), x.count(6)},
            BAD, BAD, BAD, BAD, 9, 0);
    }

    @Says("STATE: no ESTUARY (ahead of BAD).")
    static void p13_noEstuary() {
        FogSheets x = new FogSheets();
        Due.are(new long[] {x.wake(0), x.wake(16), x.wake(-1)}, STATE, STATE, STATE);
    }

    @Says("a WIND, AWAKE is another")
    static void p13_theSameIsAnActToo() {
        FogSheets x = Tapes.estuary("e6,0,1,9;g2;o0,1,9;");
        Due.are(new long[] {x.wake(9), x.count(6), x.undo(), x.stand(3)}, 9, 1, 0, 9);
    }

    @Says("What is refused, or found, changes nothing but status().")
    static void p13_refusedNothingChanges() {
        Sight.changesNothing(y -> {
            y.wake(16);
            y.wake(-1);
        });
    }

    // ---- 14: let

    /** Sheets 1 and 2 are gone, 1 has a number. */
    private static FogSheets twoGone() {
        FogSheets x = Tapes.estuary("e6,0,1,1;g2;o5,1,9;s0,3,1;w1,2,1;", 2);
        Due.are(new long[] {x.stand(4), x.sheet(1, 3), x.sheet(2, 3)}, 1, 1, 0);
        return x;
    }

    @Says("Let in AT a CELL, so THICK (1 to 9): SHEETS that are IN then (bits).")
    static void p14_whichAreInThen() {
        FogSheets x = twoGone();
        Due.are(new long[] {x.let(2, 0, 1), x.let(1, 5, 9), x.stand(4), x.count(5)}, 5, 7, 7, 3);
    }

    @Says({"(AT a CELL, as WIDE as it was, so THICK;", "Let in AT a CELL, so THICK (1 to 9)"})
    static void p14_atTheLowestCell() {
        FogSheets x = twoGone();
        x.let(2, 0, 1);
        Due.are(sheet(x, 2), 0, 2, 1, 0, 0b000011);
    }

    @Says({"(AT a CELL, as WIDE as it was, so THICK;", "Let in AT a CELL, so THICK (1 to 9)"})
    static void p14_atTheHighestCell() {
        FogSheets x = twoGone();
        x.let(2, 5, 9);
        Due.are(sheet(x, 2), 5, 2, 9, 0, 0b100000);
    }

    @Says("its NUMBER stays).")
    static void p14_itsNumberStays() {
        FogSheets x = twoGone();
        x.let(1, 0, 5);
        Due.are(new long[] {x.sheet(1, 3), x.hours(3), x.sheet(1, 3), x.stand(6)}, 1, 1, 1, 2);
    }

    @Says("a SHEET that is GONE is let in")
    static void p14_itDriftsAgain() {
        FogSheets x = twoGone();
        x.wind(0, 3);
        x.let(2, 0, 9);
        x.hours(1);
        Due.are(sheet(x, 2), 2, 2, 8, 0, 0b001100);
    }

    @Says("a SHEET that is GONE is let in")
    static void p14_itIsAnAct() {
        FogSheets x = twoGone();
        x.let(2, 0, 9);
        Due.are(new long[] {x.count(6), x.undo(), x.stand(4)}, 3, 2, 1);
    }

    @Says("STATE: it is IN.")
    static void p14_itIsIn() {
        FogSheets x = twoGone();
        Due.are(new long[] {x.let(0, 0, 1), x.let(2, 0, 1), x.let(2, 0, 1), x.sheet(0, 0), x.count(6)},
            STATE, 5, STATE, 5, 3);
    }

    @Says("BAD;")
    static void p14_noSuchSheet() {
        FogSheets x = twoGone();
        Due.are(new long[] {x.let(-1, 0, 1), x.let(3, 0, 1), x.let(LEAST, 0, 1), x.let(MOST, 0, 1)},
            BAD, BAD, BAD, BAD);
        Due.is(new FogSheets().let(0, 0, 1), BAD);
    }

    @Says("BAD;")
    static void p14_noSuchCell() {
        FogSheets x = twoGone();
        Due.are(new long[] {x.let(2, -1, 1), x.let(2, 6, 1), x.let(2, LEAST, 1), x.let(2, MOST, 1), x.stand(4)},
            BAD, BAD, BAD, BAD, 1);
    }

    @Says("BAD;")
    static void p14_noSuchThick() {
        FogSheets x = twoGone();
        Due.are(new long[] {x.let(2, 0, 0), x.let(2, 0, 10), x.let(2, 0, LEAST), x.let(2, 0, MOST), x.stand(4)},
            BAD, BAD, BAD, BAD, 1);
    }

    @Says("BAD; STATE")
    static void p14_badAheadOfIn() {
        FogSheets x = twoGone();
        Due.are(new long[] {x.let(0, 6, 1), x.let(0, 0, 10), x.let(0, 0, 1)}, BAD, BAD, STATE);
    }

    @Says("What is refused, or found, changes nothing but status().")
    static void p14_refusedNothingChanges() {
        Sight.changesNothing(y -> {
            y.let(0, 0, 1);
            y.let(2, 6, 1);
            y.let(2, 0, 10);
            y.let(3, 0, 1);
        });
    }

    // ---- 15: sheet

    @Says({"Of a SHEET: 0 AT (", "1 WIDE, 2 THICK (", "3 its NUMBER (", "4 CELLS on which it lies (bits"})
    static void p15_allOfASheet() {
        FogSheets x = Tapes.estuary("e16,3,0,15;g3;s2,3,6;b1,2,4;");
        Due.are(sheet(x, 0), 2, 3, 6, 0, 0b11100);
        Due.are(sheet(x, 1), 1, 2, 4, 0, 0b110);
        x.hours(2);
        Due.are(sheet(x, 0), 4, 3, 5, 1, 0b1110000);
        Due.are(sheet(x, 1), 1, 2, 3, 0, 0b110);
    }

    @Says({"(may be below 0;", "(AT may be below 0, what is beyond an end is on none)"})
    static void p15_atMayBeBelow0() {
        FogSheets x = Tapes.estuary("e6,5,0,0;g1;s0,5,9;", 1);
        Due.are(sheet(x, 0), -1, 5, 9, 0, 0b1111);
        x.hours(3);
        Due.are(sheet(x, 0), -4, 5, 7, 0, 1);
        x.hours(1);
        Due.are(sheet(x, 0), NONE, 5, 0, 0, 0);
    }

    @Says("(AT may be below 0, what is beyond an end is on none)")
    static void p15_beyondTheUpperEnd() {
        FogSheets x = Tapes.estuary("e6,0,0,0;g2;s5,5,9;s3,5,9;s1,5,9;");
        Due.are(new long[] {x.sheet(0, 4), x.sheet(1, 4), x.sheet(2, 4)}, 0b100000, 0b111000, 0b111110);
        FogSheets y = Tapes.estuary("e16,0,0,0;g2;s15,5,9;");
        Due.are(sheet(y, 0), 15, 5, 9, 0, 1 << 15);
    }

    @Says("One that is IN lies on the CELLS from AT on up, as many as it is WIDE")
    static void p15_asManyCellsAsItIsWide() {
        for (int wide = 1; wide <= 5; wide++) {
            FogSheets x = Tapes.estuary("e16,0,0,0;g2;s4," + wide + ",9;");
            Due.is("wide " + wide, x.sheet(0, 4), ((1 << wide) - 1) << 4);
        }
    }

    @Says({"NONE: GONE), 1 WIDE", "2 THICK (0: GONE)", "(0: none)", "0: GONE). BAD."})
    static void p15_goneItHasOnlyItsWide() {
        FogSheets x = Tapes.estuary("e6,0,0,0;g2;w0,4,1;", 1);
        Due.are(sheet(x, 0), NONE, 4, 0, 0, 0);
    }

    @Says("3 its NUMBER (0: none)")
    static void p15_goneItsNumberStays() {
        FogSheets x = Tapes.estuary("e6,0,0,15;g2;w0,4,2;", 2);
        Due.are(sheet(x, 0), NONE, 4, 0, 1, 0);
    }

    @Says("BAD.")
    static void p15_noSuchSheet() {
        FogSheets x = Tapes.estuary("e6,0,0,0;g2;s0,4,1;b0,1,1;");
        Due.are(new long[] {x.sheet(-1, 0), x.sheet(2, 0), x.sheet(LEAST, 0), x.sheet(MOST, 0)}, BAD, BAD, BAD, BAD);
        Due.is(new FogSheets().sheet(0, 0), BAD);
    }

    @Says("BAD.")
    static void p15_noSuchWhat() {
        FogSheets x = Tapes.estuary("e6,0,0,0;g2;s0,4,1;w0,1,1;", 1);
        Due.are(new long[] {x.sheet(0, -1), x.sheet(0, 5), x.sheet(0, LEAST), x.sheet(0, MOST), x.sheet(1, 5)},
            BAD, BAD, BAD, BAD, BAD);
    }

    // ---- 16: cell

    @Says({"Of a CELL: 0 OVER it", "OVER a CELL is THICK of all SHEETS that are IN and lie on it, together."})
    static void p16_overIt() {
        FogSheets x = Tapes.estuary("e6,0,2,0;g2;s1,3,4;o3,1,5;w2,2,1;");
        Due.are(new long[] {x.cell(0, 0), x.cell(1, 0), x.cell(2, 0), x.cell(3, 0), x.cell(4, 0), x.cell(5, 0)},
            0, 4, 5, 10, 0, 0);
    }

    @Says("OVER a CELL is THICK of all SHEETS that are IN and lie on it, together.")
    static void p16_oneThatIsGoneIsOverNone() {
        FogSheets x = Tapes.estuary("e6,0,2,0;g2;s1,3,4;w2,2,1;", 1);
        Due.are(new long[] {x.cell(2, 0), x.cell(2, 1), x.cell(3, 0), x.cell(3, 1)}, 4, 1, 4, 1);
    }

    @Says("OVER a CELL is THICK of all SHEETS that are IN and lie on it, together.")
    static void p16_allSixOverOne() {
        FogSheets x = Tapes.estuary("e6,0,2,0;g2;s5,1,9;s4,2,9;s3,3,9;s2,4,9;s1,5,9;s5,5,9;");
        Due.are(new long[] {x.cell(5, 0), x.cell(5, 1), x.cell(0, 0), x.cell(1, 0)}, 54, 63, 0, 9);
    }

    @Says("1 SHEETS on it (bits)")
    static void p16_sheetsOnIt() {
        FogSheets x = Tapes.estuary("e6,0,2,0;g2;s1,3,4;o3,1,5;w2,2,1;");
        Due.are(new long[] {x.cell(0, 1), x.cell(1, 1), x.cell(2, 1), x.cell(3, 1), x.cell(4, 1), x.cell(5, 1)},
            0, 1, 5, 7, 0, 0);
    }

    @Says("what is beyond an end is on none")
    static void p16_beyondTheLowerEnd() {
        FogSheets x = Tapes.estuary("e6,0,2,0;g0;s1,3,4;", 1);
        Due.are(new long[] {x.sheet(0, 0), x.cell(0, 0), x.cell(1, 0), x.cell(2, 0)}, -1, 4, 4, 0);
    }

    @Says("2 whether the walker is in it (1, 0)")
    static void p16_theWalkerIsInIt() {
        FogSheets x = Tapes.estuary("e6,0,2,0;g2;s1,3,4;");
        Due.are(new long[] {x.cell(0, 2), x.cell(1, 2), x.cell(2, 2), x.cell(3, 2)}, 0, 0, 1, 0);
        x.step(1);
        Due.are(new long[] {x.cell(2, 2), x.cell(3, 2), x.cell(5, 2)}, 0, 1, 0);
    }

    @Says("BAD.")
    static void p16_noSuchCell() {
        FogSheets x = Tapes.estuary("e6,0,2,0;g2;s1,3,4;");
        Due.are(new long[] {x.cell(-1, 0), x.cell(6, 0), x.cell(LEAST, 0), x.cell(MOST, 0), x.cell(15, 2)},
            BAD, BAD, BAD, BAD, BAD);
        FogSheets y = Tapes.estuary("e16,0,2,0;g2;s1,3,4;");
        Due.are(new long[] {y.cell(15, 0), y.cell(16, 0)}, 0, BAD);
        Due.is(new FogSheets().cell(0, 0), BAD);
    }

    @Says("BAD.")
    static void p16_noSuchWhat() {
        FogSheets x = Tapes.estuary("e6,0,2,0;g2;s1,3,4;");
        Due.are(new long[] {x.cell(0, -1), x.cell(0, 3), x.cell(0, LEAST), x.cell(0, MOST)}, BAD, BAD, BAD, BAD);
    }

    // ---- 17: stand

    private static long[] stands(FogSheets x) {
        long[] stands = new long[8];
        for (int what = 0; what < 8; what++) {
            stands[what] = x.stand(what);
        }
        return stands;
    }

    @Says({"0 CELLS, 1 POINT, 2 the CELL of the walker, 3 AWAKE, 4 which are IN (bits), 5 which have a NUMBER (bits), "
        + "6 the NUMBER that is next, 7 the WIND of this HOUR.", "Sets are bits."})
    static void p17_howItStands() {
        FogSheets x = Tapes.estuary("e7,3,2,13;g4;g1;s1,3,4;o3,1,5;w6,2,1;");
        Due.are(stands(x), 7, 3, 2, 13, 7, 0, 1, 4);
        x.hours(1);
        x.step(0);
        Due.are(stands(x), 7, 3, 1, 13, 3, 3, 3, 1);
    }

    @Says("7 the WIND of this HOUR")
    static void p17_windsComeAround() {
        FogSheets x = Tapes.estuary("e7,3,2,13;g4;g1;g3;s1,3,4;");
        long[] winds = new long[5];
        for (int i = 0; i < 5; i++) {
            winds[i] = x.stand(7);
            x.hours(1);
        }
        Due.are(winds, 4, 1, 3, 4, 1);
    }

    @Says("5 which have a NUMBER (bits)")
    static void p17_oneThatIsGoneHasItsNumber() {
        FogSheets x = Tapes.estuary("e6,0,0,15;g2;o5,1,9;w0,4,2;", 2);
        Due.are(new long[] {x.stand(4), x.stand(5), x.stand(6)}, 1, 2, 2);
    }

    @Says("6 the NUMBER that is next")
    static void p17_allHaveOne() {
        FogSheets x = Tapes.estuary("e6,0,0,15;g2;o0,1,9;o0,1,9;o0,1,9;o0,1,9;o0,1,9;o0,1,9;", 1);
        Due.are(new long[] {x.stand(5), x.stand(6)}, 63, 7);
    }

    @Says("BAD;")
    static void p17_noSuchWhat() {
        FogSheets x = Tapes.estuary("e6,0,0,15;g2;o5,1,9;");
        Due.are(new long[] {x.stand(-1), x.stand(8), x.stand(LEAST), x.stand(MOST)}, BAD, BAD, BAD, BAD);
    }

    @Says("STATE: no ESTUARY (ahead of BAD).")
    static void p17_noEstuary() {
        FogSheets x = new FogSheets();
        for (int what = -1; what <= 8; what++) {
            Due.is("stand(" + what + ")", x.stand(what), STATE);
        }
    }
}
