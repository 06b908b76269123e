/** Promises 35 to 39: kinds, asks, the trace, counts; each sentence by itself. */
public final class AskedTest {
    private static final int NONE = FogSheets.NONE, BAD = FogSheets.BAD, KIND = -1000013;
    private static final int LEAST = Integer.MIN_VALUE, MOST = Integer.MAX_VALUE;

    /** One of each kind, in the order of kinds: the sheet of kind k is k - 1. */
    private static final String ONE_OF_EACH = "e12,6,5,13;g3;s3,3,6;b5,2,9;w1,4,7;h9,3,5;o6,1,2;";

    public static void main(String[] args) {
        Cases.run(AskedTest.class);
    }

    // ---- 35: kind

    @Says({"The KIND of a SHEET, as told (1 to 5).", "KINDS of SHEETS: 0 FOG; 1 SHEET", "2 BANK", "3 WISP", "4 HAAR",
        "5 ODD"})
    static void p35_asTold() {
        FogSheets x = Tapes.estuary(ONE_OF_EACH);
        Due.are(new long[] {x.kind(0), x.kind(1), x.kind(2), x.kind(3), x.kind(4)}, 1, 2, 3, 4, 5);
    }

    @Says("The KIND of a SHEET, as told")
    static void p35_oneThatIsGoneToo() {
        FogSheets x = Tapes.estuary("e6,0,0,0;g2;s0,1,9;w0,1,1;", 1);
        Due.are(new long[] {x.stand(4), x.kind(1)}, 1, 3);
    }

    @Says("BAD.")
    static void p35_noSuchSheet() {
        FogSheets x = Tapes.estuary(ONE_OF_EACH);
        Due.are(new long[] {x.kind(-1), x.kind(5), x.kind(LEAST), x.kind(MOST)}, BAD, BAD, BAD, BAD);
        Due.is(new FogSheets().kind(0), BAD);
    }

    // ---- 36: as

    /** By which kinds a sheet can be taken (bits). */
    private static int kindsOf(int one) {
        FogSheets x = Tapes.estuary(ONE_OF_EACH);
        int kinds = 0;
        for (int kind = 0; kind <= 5; kind++) {
            kinds |= x.as(one, kind) == one ? 1 << kind : 0;
        }
        return kinds;
    }

    @Says({"1 SHEET, a FOG", "By this it is asked."})
    static void p36_aSheetIsAFog() {
        Due.is(kindsOf(0), 0b000011);
    }

    @Says("2 BANK, a SHEET")
    static void p36_aBankIsASheet() {
        Due.is(kindsOf(1), 0b000111);
    }

    @Says("3 WISP, a SHEET")
    static void p36_aWispIsASheet() {
        Due.is(kindsOf(2), 0b001011);
    }

    @Says("4 HAAR, a FOG")
    static void p36_aHaarIsAFogAndNoSheet() {
        Due.is(kindsOf(3), 0b010001);
    }

    @Says("5 ODD, a HAAR.")
    static void p36_anOddOneIsAHaar() {
        Due.is(kindsOf(4), 0b110001);
    }

    @Says("A SHEET is taken as one of a KIND (0 .. 5): its number.")
    static void p36_itsNumber() {
        FogSheets x = Tapes.estuary("e6,0,0,15;g2;o5,1,9;o0,1,9;", 1);
        // The clerk has given 1 to the second; its own number among the sheets is 1 as well, that of the first 0.
        Due.are(new long[] {x.as(0, 0), x.as(1, 5), x.as(1, 4)}, 0, 1, 1);
        FogSheets y = Tapes.estuary("e6,0,0,15;g2;o0,1,9;o5,1,9;o0,1,9;", 1);
        Due.are(new long[] {y.as(0, 5), y.as(1, 5), y.as(2, 5), y.sheet(0, 3), y.sheet(2, 3)}, 0, 1, 2, 1, 2);
    }

    @Says({"KIND: it is no such one.", "3 KIND (a SHEET that is not that)"})
    static void p36_noSuchOne() {
        FogSheets x = Tapes.estuary(ONE_OF_EACH);
        Due.are(new long[] {x.as(0, 2), x.status(), x.as(0, 3), x.as(1, 3), x.as(2, 2), x.as(3, 5), x.as(3, 1),
            x.as(4, 1)}, KIND, 3, KIND, KIND, KIND, KIND, KIND, KIND);
        Due.are(new long[] {x.as(4, 4), x.status()}, 4, 0);
    }

    @Says("BAD;")
    static void p36_noSuchSheet() {
        FogSheets x = Tapes.estuary(ONE_OF_EACH);
        Due.are(new long[] {x.as(-1, 0), x.as(5, 0), x.as(LEAST, 0), x.as(MOST, 0), x.status()}, BAD, BAD, BAD, BAD, 0);
        Due.is(new FogSheets().as(0, 0), BAD);
    }

    @Says("one of a KIND (0 .. 5)")
    static void p36_noSuchKind() {
        FogSheets x = Tapes.estuary(ONE_OF_EACH);
        Due.are(new long[] {x.as(0, -1), x.as(0, 6), x.as(0, LEAST), x.as(0, MOST), x.as(4, 5), x.as(0, 0)},
            BAD, BAD, BAD, BAD, 4, 0);
    }

    @Says("A SHEET is taken as one of a KIND")
    static void p36_oneThatIsGoneToo() {
        FogSheets x = Tapes.estuary("e6,0,0,0;g2;s0,1,9;w0,1,1;", 1);
        Due.are(new long[] {x.as(1, 3), x.as(1, 1), x.as(1, 4)}, 1, 1, KIND);
    }

    @Says("What is refused, or found, changes nothing but status().")
    static void p36_refusedNothingChanges() {
        Sight.changesNothing(y -> {
            y.as(3, 0);
            y.as(0, 6);
        });
        Sight.changesOnlyStatus(y -> y.as(0, 4), 3);
        Sight.changesOnlyStatus(y -> y.as(0, 1), 0);
    }

    // ---- 37 and 38: ask, trace

    private static void asks(FogSheets x, int one, int what, int answer, long... bodies) {
        String call = "ask(" + one + ", " + what + ")";
        Due.is(call, x.ask(one, what), answer);
        for (int i = 0; i < bodies.length; i++) {
            Due.is("trace " + i + " of " + call, x.trace(i), bodies[i]);
        }
        Due.is("no more of " + call, x.trace(bodies.length), NONE);
    }

    private static void asks(int one, int what, int answer, long... bodies) {
        asks(Tapes.estuary(ONE_OF_EACH), one, what, answer, bodies);
    }

    @Says({"11 of KIND 1, SHEETS: what 10 gives, and MARK.", "An ASK (0, 1) of a SHEET.",
        "ASKS of SHEETS, by BODIES, each of which leaves its number in THE TRACE as it begins"})
    static void p37_sizeOfASheet() {
        asks(0, 0, 3 + 6, 11, 10, 21, 20);
    }

    @Says({"12 of BANKS: 0 less what 11 gives.", "SIZE, MARK within others are asked of the same SHEET anew.)"})
    static void p37_sizeOfABank() {
        asks(1, 0, -(2 + 2 * (1 + 9)), 12, 11, 10, 24, 21, 20);
    }

    @Says({"else that of the nearest KIND that it is, too", "within others are asked of the same SHEET anew.)"})
    static void p37_sizeOfAWisp() {
        asks(2, 0, 4 + 2 + 7 - 1000, 11, 10, 22, 21, 20);
    }

    @Says({"13 of HAARS: what 10 gives, less 100.", "0 SIZE: 10 lent to all of them: WIDE."})
    static void p37_sizeOfAHaar() {
        asks(3, 0, 3 - 100, 13, 10);
    }

    @Says("14 of the ODD: what 13 gives, twice.")
    static void p37_sizeOfAnOddOne() {
        asks(4, 0, 2 * (1 - 100), 14, 13, 10);
    }

    @Says({"21 of KIND 1, SHEETS: what 20 gives, and THICK (", "1 MARK: 20 lent to all: the number."})
    static void p37_markOfASheet() {
        asks(0, 1, 6, 21, 20);
    }

    @Says("24 of BANKS: what 21 gives, twice.")
    static void p37_markOfABank() {
        asks(1, 1, 2 * (1 + 9), 24, 21, 20);
    }

    @Says("22 of WISPS: what 21 gives, less 1000.")
    static void p37_markOfAWisp() {
        asks(2, 1, 2 + 7 - 1000, 22, 21, 20);
    }

    @Says({"23 of HAARS: what 20 gives, less SIZE.", "SIZE, MARK within others are asked of the same SHEET anew.)"})
    static void p37_markOfAHaar() {
        asks(3, 1, 3 - (3 - 100), 23, 20, 13, 10);
    }

    @Says({"(Of an ask the BODY told for the KIND begins, else that of the nearest KIND that it is, too, else the one "
        + "that is lent;", "asked of the same SHEET anew"})
    static void p37_markOfAnOddOne() {
        asks(4, 1, 4 - 2 * (1 - 100), 23, 20, 14, 13, 10);
    }

    @Says("20 lent to all: the number.")
    static void p37_theNumberIsNotTheClerks() {
        FogSheets x = Tapes.estuary("e6,0,0,15;g2;s5,1,9;s5,1,9;s0,1,9;", 1);
        Due.are(new long[] {x.sheet(2, 3), x.ask(2, 1), x.ask(1, 1)}, 1, 2 + 9, 1 + 9);
    }

    @Says("(as it was, if it is GONE).")
    static void p37_thickAsItWas() {
        FogSheets x = Tapes.estuary("e6,0,0,15;g4;s0,1,9;s3,2,4;", 2);
        Due.is(x.sheet(1, 2), 0);
        asks(x, 1, 1, 1 + 4, 21, 20);
        asks(x, 1, 0, 2 + 1 + 4, 11, 10, 21, 20);
        x.let(1, 0, 9);
        asks(x, 1, 1, 1 + 9, 21, 20);
    }

    @Says("what 20 gives, and THICK")
    static void p37_thickAsItIs() {
        FogSheets x = Tapes.estuary("e16,0,0,15;g2;s0,1,9;w3,2,8;", 2);
        Due.are(new long[] {x.ask(0, 1), x.ask(1, 1)}, 8, 1 + 5 - 1000);
    }

    @Says("BAD.")
    static void p37_noSuchSheet() {
        FogSheets x = Tapes.estuary(ONE_OF_EACH);
        Due.are(new long[] {x.ask(-1, 0), x.ask(5, 0), x.ask(LEAST, 0), x.ask(MOST, 1)}, BAD, BAD, BAD, BAD);
        Due.is(new FogSheets().ask(0, 0), BAD);
    }

    @Says("An ASK (0, 1) of a SHEET. BAD.")
    static void p37_noSuchAsk() {
        FogSheets x = Tapes.estuary(ONE_OF_EACH);
        Due.are(new long[] {x.ask(0, -1), x.ask(0, 2), x.ask(0, LEAST), x.ask(0, MOST)}, BAD, BAD, BAD, BAD);
    }

    @Says("THE TRACE is empty ahead of it.")
    static void p37_theTraceIsEmptyAhead() {
        FogSheets x = Tapes.estuary(ONE_OF_EACH);
        asks(x, 1, 0, -22, 12, 11, 10, 24, 21, 20);
        asks(x, 3, 0, -97, 13, 10);
        Due.are(new long[] {x.trace(2), x.trace(3), x.trace(4), x.trace(5)}, NONE, NONE, NONE, NONE);
    }

    @Says("What is refused, or found, changes nothing but status().")
    static void p37_refusedTheTraceStays() {
        FogSheets x = Tapes.estuary(ONE_OF_EACH);
        x.ask(0, 1);
        x.ask(5, 0);
        x.ask(0, 2);
        Due.are(new long[] {x.trace(0), x.trace(1), x.trace(2)}, 21, 20, NONE);
        Sight.changesNothing(y -> {
            y.ask(3, 0);
            y.ask(0, 2);
        });
    }

    @Says("ASKS of SHEETS")
    static void p37_onlyTheTraceChanges() {
        FogSheets x = Tapes.estuary(ONE_OF_EACH, 1);
        x.ask(1, 0);
        long[] before = Sight.of(x);
        x.ask(4, 1);
        x.ask(1, 0);
        Due.are(Sight.of(x), before);
    }

    @Says({"Number i of THE TRACE;", "NONE."})
    static void p38_numberI() {
        FogSheets x = Tapes.estuary(ONE_OF_EACH);
        x.ask(1, 0);
        Due.are(new long[] {x.trace(0), x.trace(1), x.trace(2), x.trace(3), x.trace(4), x.trace(5), x.trace(6)},
            12, 11, 10, 24, 21, 20, NONE);
    }

    @Says("NONE.")
    static void p38_emptyAtFirst() {
        FogSheets x = new FogSheets();
        Due.are(new long[] {x.trace(0), x.trace(1), x.trace(15)}, NONE, NONE, NONE);
        Due.is(Tapes.estuary(ONE_OF_EACH).trace(0), NONE);
    }

    @Says("NONE.")
    static void p38_noSuchNumber() {
        FogSheets x = Tapes.estuary(ONE_OF_EACH);
        x.ask(1, 0);
        Due.are(new long[] {x.trace(-1), x.trace(LEAST), x.trace(MOST)}, NONE, NONE, NONE);
    }

    @Says("(the first 16)")
    static void p38_the16thAndBeyond() {
        FogSheets x = Tapes.estuary(ONE_OF_EACH);
        for (int i = 0; i < 4; i++) {
            x.ask(1, 0);
        }
        Due.are(new long[] {x.trace(5), x.trace(6), x.trace(15), x.trace(16), x.trace(17)}, 20, NONE, NONE, NONE, NONE);
    }

    @Says("Number i of THE TRACE")
    static void p38_itStaysWhileOthersAreCalled() {
        FogSheets x = Tapes.estuary(ONE_OF_EACH);
        x.ask(0, 1);
        x.hours(1);
        x.undo();
        x.as(0, 1);
        x.kind(0);
        x.drawn(9, 9, 0);
        Due.are(new long[] {x.trace(0), x.trace(0), x.trace(1), x.trace(2)}, 21, 21, 20, NONE);
    }

    // ---- 39: count

    @Says("How many: 0 ROWS, 1 SHEETS, 2 WINDS, 3 HOUR, 4 how many have a NUMBER, 5 how many are IN, "
        + "6 ACTS that can be undone, 7 bytes on the tape.")
    static void p39_eachCount() {
        FogSheets x = Tapes.estuary("e6,0,0,15;g2;g4;g2;o0,1,9;o0,1,9;w3,2,1;o0,1,9;o5,1,9;");
        x.row(0, 0, 1);
        x.hours(2);
        x.step(1);
        Tapes.feed(x, "e6,0,0,");
        long[] counts = new long[8];
        for (int what = 0; what < 8; what++) {
            counts[what] = x.count(what);
        }
        Due.are(counts, 1, 5, 3, 2, 3, 4, 3, 7);
    }

    @Says("How many: 0 ROWS")
    static void p39_rows() {
        FogSheets x = new FogSheets();
        for (int row = 0; row < 8; row++) {
            x.row(row, 0, 0);
            x.row(row, 1, 1);
            Due.is("rows", x.count(0), row + 1);
        }
        x.drop(0);
        x.drop(7);
        x.drop(7);
        Due.is(x.count(0), 6);
    }

    @Says("4 how many have a NUMBER, 5 how many are IN")
    static void p39_oneThatIsGoneHasItsNumber() {
        FogSheets x = Tapes.estuary("e6,0,0,15;g2;o5,1,9;w0,1,2;", 2);
        Due.are(new long[] {x.count(4), x.count(5), x.count(1)}, 1, 1, 2);
    }

    @Says("1 SHEETS, 2 WINDS")
    static void p39_theMost() {
        FogSheets x = Tapes.estuary("e6,0,0,15;g2;g2;g2;g2;g2;g2;o5,1,9;o5,1,9;o5,1,9;o5,1,9;o5,1,9;o5,1,9;", 999);
        Due.are(new long[] {x.count(1), x.count(2), x.count(3), x.count(5), x.count(6)}, 6, 6, 999, 6, 24);
    }

    @Says("How many")
    static void p39_beforeAnEstuary() {
        FogSheets x = new FogSheets();
        Due.are(new long[] {x.count(0), x.count(1), x.count(2), x.count(3), x.count(4), x.count(5), x.count(6),
            x.count(7)}, 0, 0, 0, 0, 0, 0, 0, 0);
    }

    @Says("BAD.")
    static void p39_noSuchCount() {
        FogSheets x = Tapes.estuary(ONE_OF_EACH);
        Due.are(new long[] {x.count(-1), x.count(8), x.count(LEAST), x.count(MOST)}, BAD, BAD, BAD, BAD);
        Due.are(new long[] {new FogSheets().count(-1), new FogSheets().count(8)}, BAD, BAD);
    }
}
