/** Promises 6 to 8: the tape, the tokens, estuaries that are read, faults; each sentence by itself. */
public final class TextsTest {
    private static final int BAD = FogSheets.BAD, STATE = FogSheets.STATE, FULL = FogSheets.FULL;
    private static final int LEAST = Integer.MIN_VALUE, MOST = Integer.MAX_VALUE;
    private static final String LAW = "e6,0,0,0;";
    private static final String AHEAD = LAW + "g0;";
    private static final String SIX_WINDS = "g0;g1;g2;g3;g4;g0;";
    private static final String SIX_SHEETS = "s0,1,1;b0,1,1;w0,1,1;h0,1,1;o0,1,1;s0,1,1;";

    public static void main(String[] args) {
        Cases.run(TextsTest.class);
    }

    private static void sound(String text, int sheets) {
        FogSheets x = new FogSheets();
        Due.is(text, Tapes.read(x, text), sheets);
        Due.is("fault of " + text, x.fault(), 0);
    }

    /** A text on a new object, the place of its fault, its number. */
    private static void fault(String text, int place, int number) {
        FogSheets x = new FogSheets();
        Due.is(text, Tapes.read(x, text), -1000100 - place);
        Due.is("fault of " + text, x.fault(), number);
        Due.is("none is read: " + text, x.stand(0), STATE);
    }

    // ---- 6: feed

    @Says("A byte (0 to 255) comes behind the tape: how many it has.")
    static void p06_bytesFrom0To255() {
        FogSheets x = new FogSheets();
        Due.are(new long[] {x.feed(0), x.feed(255), x.feed('e'), x.count(7)}, 1, 2, 3, 3);
    }

    @Says({"comes behind the tape", "that come one by one"})
    static void p06_behindWhatIsThere() {
        FogSheets x = new FogSheets();
        Tapes.feed(x, "e6,0,0,0;g2;");
        Due.is(x.count(7), 12);
        Tapes.feed(x, "s4,2,7;");
        Due.are(new long[] {x.estuary(), x.stand(0), x.sheet(0, 0), x.sheet(0, 1), x.sheet(0, 2)}, 1, 6, 4, 2, 7);
    }

    @Says("BAD;")
    static void p06_noByte() {
        FogSheets x = new FogSheets();
        Due.are(new long[] {x.feed(-1), x.feed(256), x.feed(LEAST), x.feed(MOST), x.count(7)}, BAD, BAD, BAD, BAD, 0);
    }

    @Says({"FULL", "TEXTS: THE TAPE has at most 120 bytes"})
    static void p06_120BytesAtMost() {
        FogSheets x = new FogSheets();
        for (int i = 1; i <= 120; i++) {
            Due.is("byte " + i, x.feed('e'), i);
        }
        Due.are(new long[] {x.feed('e'), x.feed(0), x.count(7)}, FULL, FULL, 120);
    }

    @Says("Refusals are answers, the first of these that fits, but as told")
    static void p06_badAheadOfFull() {
        FogSheets x = new FogSheets();
        for (int i = 1; i <= 120; i++) {
            x.feed('e');
        }
        Due.are(new long[] {x.feed(256), x.feed(-1), x.feed(255)}, BAD, BAD, FULL);
    }

    @Says("What is refused, or found, changes nothing but status().")
    static void p06_aRefusedByteDoesNotCome() {
        FogSheets x = new FogSheets();
        Tapes.feed(x, "e6,0,0,0;g2;");
        x.feed(-1);
        x.feed(256 + 'g');
        Tapes.feed(x, "s4,2,7;");
        Due.are(new long[] {x.count(7), x.estuary()}, 19, 1);
        Sight.changesNothing(y -> {
            y.feed(-1);
            y.feed(256);
        });
    }

    @Says("THE TAPE has at most 120 bytes")
    static void p06_emptiedItHasRoomAgain() {
        FogSheets x = new FogSheets();
        for (int i = 1; i <= 121; i++) {
            x.feed('e');
        }
        x.estuary();
        Due.are(new long[] {x.count(7), x.feed('e')}, 0, 1);
    }

    // ---- 7: estuary, what is read

    @Says("how many SHEETS there are.")
    static void p07_howManySheets() {
        for (int sheets = 1; sheets <= 6; sheets++) {
            sound(AHEAD + SIX_SHEETS.substring(0, 7 * sheets), sheets);
        }
    }

    @Says("The tape, empty then, is read")
    static void p07_theTapeIsEmptyThen() {
        FogSheets x = new FogSheets();
        Due.are(new long[] {Tapes.read(x, AHEAD + "s0,1,1;"), x.count(7)}, 1, 0);
        Due.are(new long[] {Tapes.read(x, AHEAD + "s0,1,1;b0,1,1;"), x.count(7)}, 2, 0);
    }

    @Says("The tape, empty then, is read")
    static void p07_theTapeIsEmptyBehindAFault() {
        FogSheets x = new FogSheets();
        Due.are(new long[] {Tapes.read(x, "e5"), x.count(7)}, -1000101, 0);
        Due.are(new long[] {Tapes.read(x, AHEAD + "s0,1,1;"), x.count(7)}, 1, 0);
    }

    @Says("The tape, empty then, is read")
    static void p07_nothingOfAnEarlierTapeIsRead() {
        FogSheets x = new FogSheets();
        Tapes.read(x, "e66");
        Due.are(new long[] {Tapes.read(x, "e6"), x.fault()}, -1000102, 1);
        Tapes.read(x, AHEAD + "s0,1,1;");
        Due.are(new long[] {Tapes.read(x, AHEAD), x.fault(), x.estuary()}, -1000112, 1, -1000100);
    }

    @Says("-1000100 less the place of a FAULT: all stays.")
    static void p07_behindAFaultAllStays() {
        FogSheets x = Sight.made();
        x.feed('5');
        Due.is(x.estuary(), -1000101);
        FogSheets as = Sight.made();
        as.estuary();
        Due.are(Sight.of(x), replaced(Sight.of(as), 0, 2));
        Due.are(new long[] {x.undo(), x.restore(0), x.restore(1)}, 3, 1, 1);
        Due.are(new long[] {x.drop(0), x.drop(2), x.drop(6)}, 3, 12, 40);
    }

    private static long[] replaced(long[] seen, int i, long v) {
        seen[i] = v;
        return seen;
    }

    @Says("-1000100 less the place of a FAULT: all stays.")
    static void p07_aFaultAtTheVeryEndChangesNothing() {
        FogSheets x = Tapes.estuary("e7,3,2,5;g4;g1;o1,2,8;", 1);
        long[] seen = Sight.of(x);
        Due.is(Tapes.read(x, "e16,9,9,15;g0;g0;g0;s9,5,9;s9,5,9;s9,5,9"), -1000140);
        Due.are(Sight.of(x), replaced(seen, 0, 1));
    }

    @Says("An ESTUARY that is read stands in place of the one before (none at first)")
    static void p07_inPlaceOfTheOneBefore() {
        FogSheets x = Tapes.estuary("e16,15,15,15;" + SIX_WINDS + SIX_SHEETS, 1);
        Due.is(Tapes.read(x, "e7,3,2,5;g4;o1,2,8;"), 1);
        Due.are(new long[] {x.stand(0), x.stand(1), x.stand(2), x.stand(3), x.stand(4), x.stand(7), x.count(1),
            x.count(2)}, 7, 3, 2, 5, 1, 4, 1, 1);
        Due.are(new long[] {x.sheet(0, 0), x.sheet(0, 1), x.sheet(0, 2), x.kind(0), x.kind(1), x.wind(1, 0)},
            1, 2, 8, 5, BAD, BAD);
    }

    @Says("HOUR 0, all SHEETS are IN")
    static void p07_itIsHour0() {
        FogSheets x = Tapes.estuary(AHEAD + "s0,1,1;", 5);
        Due.is(x.count(3), 5);
        Tapes.read(x, LAW + "g1;g2;s0,1,1;");
        Due.are(new long[] {x.count(3), x.stand(7)}, 0, 1);
    }

    @Says("all SHEETS are IN")
    static void p07_allAreIn() {
        FogSheets x = Tapes.estuary(AHEAD + SIX_SHEETS, 20);
        Due.is(x.stand(4), 0);
        Tapes.read(x, AHEAD + SIX_SHEETS);
        Due.are(new long[] {x.stand(4), x.count(5)}, 63, 6);
    }

    @Says("none has a NUMBER")
    static void p07_noneHasANumber() {
        FogSheets x = Tapes.estuary("e6,0,0,15;g2;o0,1,5;o0,1,5;", 1);
        Due.is(x.count(4), 2);
        Tapes.read(x, "e6,0,0,15;g2;o0,1,5;o0,1,5;");
        Due.are(new long[] {x.count(4), x.stand(5), x.stand(6), x.sheet(0, 3), x.sheet(1, 3)}, 0, 0, 1, 0, 0);
    }

    @Says("no ACT can be undone.")
    static void p07_noActCanBeUndone() {
        FogSheets x = Tapes.estuary(AHEAD + "s0,1,1;", 5);
        Due.is(x.count(6), 5);
        Tapes.read(x, AHEAD + "s0,1,1;");
        Due.are(new long[] {x.count(6), x.undo()}, 0, STATE);
    }

    // ---- 7: tokens

    @Says("TOKENS: letters a to z (each by itself)")
    static void p07_eachLetterByItself() {
        fault("ee6,0,0,0;", 1, 1);
        fault(LAW + "gg0;", 10, 1);
        fault(AHEAD + "ss0,1,1;", 13, 1);
        fault(AHEAD + "sheet", 13, 1);
    }

    @Says("NUMBERS (figures, 2 at most)")
    static void p07_numbersOfTwoFigures() {
        FogSheets x = new FogSheets();
        Due.is(Tapes.read(x, "e07,01,02,03;g04;h00,05,09;"), 1);
        Due.are(new long[] {x.stand(0), x.stand(1), x.stand(2), x.stand(3), x.stand(7), x.sheet(0, 0), x.sheet(0, 1),
            x.sheet(0, 2)}, 7, 1, 2, 3, 4, 0, 5, 9);
    }

    @Says({"NUMBERS (figures, 2 at most)", "a run of three figures, at its first"})
    static void p07_threeFiguresAreNoToken() {
        fault("e006,0,0,0;", 1, 1);
        fault("e6,000,0,0;", 3, 1);
        fault("e123", 1, 1);
        fault("e12345678", 1, 1);
        fault(AHEAD + "s0,1,100;", 17, 1);
        fault(AHEAD + "s0,1,001;", 17, 1);
    }

    @Says("SIGNS , and ; nothing else.")
    static void p07_nothingElse() {
        for (char c : " \t\n./:<+-*AEGSZ`{|~@[_'\"".toCharArray()) {
            fault(c + AHEAD + "s0,1,1;", 0, 1);
            fault("e6" + c + ",0,0,0;g0;s0,1,1;", 2, 1);
            fault(AHEAD + "s0,1,1;" + c, 19, 1);
        }
        fault("e" + (char) 0, 1, 1);
        fault("e" + (char) 255, 1, 1);
        fault("e" + (char) ('6' + 128), 1, 1);
    }

    @Says("SIGNS , and ; nothing else.")
    static void p07_theRightSign() {
        fault("e6;0,0,0;", 2, 1);
        fault("e6,0,0,0,", 8, 1);
        fault(LAW + "g0,", 11, 1);
        fault(AHEAD + "s0;1,1;", 14, 1);
        fault(AHEAD + "s0,1;1;", 16, 1);
        fault(AHEAD + "s0,1,1,", 18, 1);
        fault("e,6,0,0,0;", 1, 1);
        fault(AHEAD + "s0,1,1;;", 19, 1);
    }

    // ---- 7: the estuary's parts

    @Says("estuary: law wind { wind } sheet { sheet }.")
    static void p07_theLeastAndTheMost() {
        sound("e6,0,0,0;g0;s0,1,1;", 1);
        sound("e16,15,15,15;" + SIX_WINDS + "s15,05,09;b15,05,09;w15,05,09;h15,05,09;o15,05,09;s15,05,09;", 6);
    }

    @Says("estuary: law")
    static void p07_aLawFirst() {
        fault("g0;s0,1,1;", 0, 1);
        fault("s0,1,1;", 0, 1);
        fault("6,0,0,0;", 0, 1);
        fault(",", 0, 1);
        fault(LAW + LAW + "g0;s0,1,1;", 9, 1);
        fault(AHEAD + LAW + "s0,1,1;", 12, 1);
    }

    @Says("law wind { wind }")
    static void p07_noWindAtAll() {
        fault(LAW, 9, 1);
        fault(LAW + "s0,1,1;", 9, 1);
    }

    @Says("sheet { sheet }.")
    static void p07_noSheetAtAll() {
        fault(AHEAD, 12, 1);
        fault(LAW + SIX_WINDS, 27, 1);
    }

    @Says("law wind { wind } sheet { sheet }.")
    static void p07_noWindBehindASheet() {
        fault(AHEAD + "s0,1,1;g0;", 19, 1);
        fault(AHEAD + "s0,1,1;g0;s0,1,1;", 19, 1);
    }

    @Says("law wind { wind } sheet { sheet }.")
    static void p07_nothingBehindTheSheets() {
        fault(AHEAD + "s0,1,1;a", 19, 1);
        fault(AHEAD + "s0,1,1;e", 19, 1);
        fault(AHEAD + "s0,1,1;7", 19, 1);
        fault(AHEAD + "s0,1,1;,", 19, 1);
    }

    @Says("(6 to 16: CELLS 0, 1, ..")
    static void p07_cellsFrom6To16() {
        sound("e6,0,0,0;g0;s0,1,1;", 1);
        sound("e16,0,0,0;g0;s0,1,1;", 1);
        fault("e5,0,0,0;g0;s0,1,1;", 1, 2);
        fault("e17,0,0,0;g0;s0,1,1;", 1, 2);
        fault("e0,0,0,0;g0;s0,1,1;", 1, 2);
        fault("e99,0,0,0;g0;s0,1,1;", 1, 2);
    }

    @Says("law: e CELLS , POINT , WALKER , AWAKE ;")
    static void p07_eachOfTheLawInItsPlace() {
        FogSheets x = Tapes.estuary("e9,8,7,6;g0;s0,1,1;");
        Due.are(new long[] {x.stand(0), x.stand(1), x.stand(2), x.stand(3)}, 9, 8, 7, 6);
    }

    @Says("a CELL; a CELL; bits 0 to 3")
    static void p07_thePointIsACell() {
        sound("e6,5,0,0;g0;s0,1,1;", 1);
        sound("e16,15,0,0;g0;s0,1,1;", 1);
        fault("e6,6,0,0;g0;s0,1,1;", 3, 2);
        fault("e16,16,0,0;g0;s0,1,1;", 4, 2);
        fault("e6,99,0,0;g0;s0,1,1;", 3, 2);
    }

    @Says("a CELL; a CELL; bits 0 to 3")
    static void p07_theWalkerIsOnACell() {
        sound("e6,0,5,0;g0;s0,1,1;", 1);
        sound("e16,0,15,0;g0;s0,1,1;", 1);
        fault("e6,0,6,0;g0;s0,1,1;", 5, 2);
        fault("e16,0,16,0;g0;s0,1,1;", 6, 2);
    }

    @Says("whether the clerk is awake in HOURS that leave 0 to 3 by 4: 0 to 15)")
    static void p07_awakeFrom0To15() {
        sound("e6,0,0,0;g0;s0,1,1;", 1);
        sound("e6,0,0,15;g0;s0,1,1;", 1);
        fault("e6,0,0,16;g0;s0,1,1;", 7, 2);
        fault("e6,0,0,99;g0;s0,1,1;", 7, 2);
    }

    @Says("wind: g WIND ; (0 to 4")
    static void p07_windsFrom0To4() {
        for (int v = 0; v <= 4; v++) {
            Due.is("wind " + v, Tapes.estuary(LAW + "g" + v + ";s0,1,1;").stand(7), v);
        }
        fault(LAW + "g5;s0,1,1;", 10, 2);
        fault(LAW + "g10;s0,1,1;", 10, 2);
        fault(LAW + "g;s0,1,1;", 10, 1);
    }

    @Says("WINDS 0 .. 5, 6 at most")
    static void p07_sixWindsAtMost() {
        FogSheets x = Tapes.estuary(LAW + SIX_WINDS + "s0,1,1;");
        Due.is(x.count(2), 6);
        Due.are(new long[] {x.wind(0, 0), x.wind(1, 0), x.wind(2, 0), x.wind(3, 0), x.wind(4, 0), x.wind(5, 1),
            x.wind(5, 0), x.wind(6, 0)}, 0, 1, 2, 3, 4, 0, 1, BAD);
        fault(LAW + SIX_WINDS + "g0;s0,1,1;", 27, 3);
    }

    @Says("sheet: SORT AT , WIDE , THICK ; (SORT: s a sheet, b a bank, w a wisp, h a haar, o one of the odd")
    static void p07_theSorts() {
        FogSheets x = Tapes.estuary(AHEAD + SIX_SHEETS);
        Due.are(new long[] {x.kind(0), x.kind(1), x.kind(2), x.kind(3), x.kind(4), x.kind(5)}, 1, 2, 3, 4, 5, 1);
        for (char c = 'a'; c <= 'z'; c++) {
            if ("sbwho".indexOf(c) < 0 && c != 'g') {
                fault(AHEAD + c + "0,1,1;", 12, 1);
            }
        }
    }

    @Says("sheet: SORT AT , WIDE , THICK ;")
    static void p07_eachOfASheetInItsPlace() {
        FogSheets x = Tapes.estuary("e16,0,0,0;g0;s0,1,1;b12,4,7;");
        Due.are(new long[] {x.sheet(1, 0), x.sheet(1, 1), x.sheet(1, 2), x.kind(1)}, 12, 4, 7, 2);
    }

    @Says("a CELL; 1 to 5; 1 to 9;")
    static void p07_aSheetIsAtACell() {
        sound(AHEAD + "s5,5,1;", 1);
        sound("e16,0,0,0;g0;s15,5,1;", 1);
        fault(AHEAD + "s6,1,1;", 13, 2);
        fault("e16,0,0,0;g0;s16,1,1;", 14, 2);
    }

    @Says("a CELL; 1 to 5; 1 to 9;")
    static void p07_wideFrom1To5() {
        sound(AHEAD + "s0,1,1;", 1);
        sound(AHEAD + "s0,5,1;", 1);
        fault(AHEAD + "s0,0,1;", 15, 2);
        fault(AHEAD + "s0,6,1;", 15, 2);
    }

    @Says("a CELL; 1 to 5; 1 to 9;")
    static void p07_thickFrom1To9() {
        sound(AHEAD + "s0,1,9;", 1);
        fault(AHEAD + "s0,1,0;", 17, 2);
        fault(AHEAD + "s0,1,10;", 17, 2);
        fault(AHEAD + "s0,1,00;", 17, 2);
    }

    @Says("SHEETS 0 .. 5, 6 at most)")
    static void p07_sixSheetsAtMost() {
        FogSheets x = Tapes.estuary(AHEAD + SIX_SHEETS);
        Due.are(new long[] {x.count(1), x.sheet(5, 1), x.sheet(6, 1)}, 6, 1, BAD);
        fault(AHEAD + SIX_SHEETS + "o0,1,1;", 54, 3);
    }

    // ---- 7 and 8: faults

    @Says("FAULTS, the first TOKEN that has one")
    static void p07_theFirstOfTwo() {
        fault("e5,9,0,0;", 1, 2);
        fault("e6,9,9,99;", 3, 2);
        fault(LAW + "g9;x", 10, 2);
        fault(AHEAD + "s9,9,9 ", 13, 2);
        fault(LAW + SIX_WINDS + "g9", 27, 3);
    }

    @Says("(its first byte)")
    static void p07_itsFirstByte() {
        fault("e6,0,0,16;", 7, 2);
        fault("e16,0,16,0;", 6, 2);
        fault("e6,0,0,0;g12;", 10, 2);
        fault("e66", 1, 2);
    }

    @Says("the end: how many bytes there are)")
    static void p07_theEndAtEachPlace() {
        String text = AHEAD + "s0,1,1;";
        for (int n = 0; n < text.length(); n++) {
            fault(text.substring(0, n), n, 1);
        }
        fault(text + "b5,5,5", 25, 1);
    }

    @Says("the end: how many bytes there are)")
    static void p07_anEmptyTape() {
        FogSheets x = new FogSheets();
        Due.are(new long[] {x.estuary(), x.fault(), x.estuary()}, -1000100, 1, -1000100);
        FogSheets y = Tapes.estuary(AHEAD + "s0,1,1;", 1);
        Due.are(new long[] {y.estuary(), y.fault(), y.count(3)}, -1000100, 1, 1);
    }

    @Says("The number of the latest FAULT")
    static void p08_theLatest() {
        FogSheets x = new FogSheets();
        Tapes.read(x, "e5");
        Due.is(x.fault(), 2);
        Tapes.read(x, "e");
        Due.is(x.fault(), 1);
        Tapes.read(x, LAW + SIX_WINDS + "g");
        Due.is(x.fault(), 3);
        Tapes.read(x, "e5");
        Due.is(x.fault(), 2);
    }

    @Says("The number of the latest FAULT")
    static void p08_itStaysBehindASoundText() {
        FogSheets x = new FogSheets();
        Tapes.read(x, "e5");
        Tapes.read(x, AHEAD + "s0,1,1;");
        Due.is(x.fault(), 2);
        x.image(0);
        x.hours(1);
        x.undo();
        x.restore(0);
        Due.is(x.fault(), 2);
    }

    @Says("0 before one.")
    static void p08_0BeforeOne() {
        FogSheets x = new FogSheets();
        Due.is(x.fault(), 0);
        Tapes.read(x, AHEAD + "s0,1,1;");
        x.feed(300);
        Due.is(x.fault(), 0);
    }

    @Says("1 it cannot stand there, or is none (")
    static void p08_number1() {
        fault("x", 0, 1);
        fault("E", 0, 1);
        fault("e,", 1, 1);
        fault("eg", 1, 1);
        fault("e6g", 2, 1);
        fault("", 0, 1);
    }

    @Says("2 a NUMBER that is not as told")
    static void p08_number2() {
        fault("e5", 1, 2);
        fault("e6,6", 3, 2);
        fault(LAW + "g5", 10, 2);
        fault(AHEAD + "s0,6", 15, 2);
    }

    @Says("3 a wind, a sheet more than there is room for (its letter).")
    static void p08_number3() {
        fault(LAW + SIX_WINDS + "g", 27, 3);
        fault(LAW + SIX_WINDS + "g0;" + SIX_SHEETS, 27, 3);
        for (char c : "sbwho".toCharArray()) {
            fault(AHEAD + SIX_SHEETS + c, 54, 3);
        }
        fault(LAW + SIX_WINDS + SIX_SHEETS + "s0,1,1;", 69, 3);
    }

    @Says("of one TOKEN the least")
    static void p08_theLeastOfOneToken() {
        fault("99", 0, 1);
        fault(AHEAD + "s0,1,1;99", 19, 1);
        fault(LAW + SIX_WINDS + "s0,1,1;g", 34, 1);
        fault(AHEAD + SIX_SHEETS + "g", 54, 1);
        fault(AHEAD + SIX_SHEETS + "x", 54, 1);
    }
}
