/** Promises 1 to 5 and 40: a new object, rows, and the status of calls with a row; each sentence by itself. */
public final class RowsTest {
    private static final int NONE = FogSheets.NONE, BAD = FogSheets.BAD, STATE = FogSheets.STATE;
    private static final int FULL = FogSheets.FULL;
    private static final int NULL = -1000011, PLACE = -1000012, KIND = -1000013, SIZE = -1000014, STORE = -1000015;
    private static final int LEAST = Integer.MIN_VALUE, MOST = Integer.MAX_VALUE;

    public static void main(String[] args) {
        Cases.run(RowsTest.class);
    }

    /** Rows 0, 1 and 2 of bytes, shorts and ints, with n items each, over an estuary by which items can be read. */
    private static FogSheets threeRows(int n) {
        FogSheets x = Items.estuary();
        for (int lane = 0; lane < 3; lane++) {
            x.row(lane, lane, n);
        }
        return x;
    }

    // ---- 1: a new object

    @Says("No ESTUARY.")
    static void p01_noEstuary() {
        FogSheets x = new FogSheets();
        Due.are(new long[] {x.stand(0), x.hours(1), x.sheet(0, 0), x.cell(0, 0), x.wind(0, 0), x.kind(0)},
            STATE, STATE, BAD, BAD, BAD, BAD);
    }

    @Says("No ESTUARY.")
    static void p01_nothingIsThere() {
        FogSheets x = new FogSheets();
        for (int what = 0; what <= 7; what++) {
            Due.is("count(" + what + ")", x.count(what), 0);
        }
        Due.are(new long[] {x.fault(), x.status(), x.undo(), x.trace(0), x.restore(0), x.restore(1)},
            0, 0, STATE, NONE, STATE, STATE);
    }

    @Says("ROWS 0 .. 7 are missing (at first)")
    static void p01_allRowsAreMissing() {
        FogSheets x = new FogSheets();
        for (int row = 0; row <= 7; row++) {
            Due.is("drop(" + row + ")", x.drop(row), NULL);
        }
    }

    @Says("No ESTUARY.")
    static void p01_theFoursNumbers() {
        Due.are(new long[] {NONE, BAD, STATE, FULL}, -1000000, -1000001, -1000002, -1000003);
    }

    @Says("No ESTUARY.")
    static void p01_oneObjectHasNothingOfAnother() {
        FogSheets x = Sight.made();
        FogSheets y = new FogSheets();
        Due.are(new long[] {y.stand(0), y.count(0), y.count(7), y.restore(0), y.status(), y.fault(), y.trace(0)},
            STATE, 0, 0, STATE, 0, 0, NONE);
        Due.is(x.count(0), 3);
    }

    @Says("No ESTUARY.")
    static void p01_itServesFor512Calls() {
        FogSheets x = Tapes.estuary("e6,0,0,0;g2;s0,1,1;");
        for (int call = 21; call <= 511; call++) {
            x.wake(call % 16);
        }
        Due.is(x.stand(3), 511 % 16);
    }

    // ---- 2: row

    @Says("A ROW of a LANE with n ITEMS, in place of what is there: n.")
    static void p02_answersHowMany() {
        FogSheets x = new FogSheets();
        Due.are(new long[] {x.row(0, 0, 1), x.row(1, 1, 12), x.row(7, 2, 39)}, 1, 12, 39);
        Due.are(new long[] {x.count(0), x.drop(0), x.drop(1), x.drop(7)}, 3, 1, 12, 39);
    }

    @Says({"Numbers go from 0 on.", "ROWS 0 .. 7"})
    static void p02_rowsGoFrom0To7() {
        FogSheets x = new FogSheets();
        for (int row = 0; row <= 7; row++) {
            Due.is("row(" + row + ", 0, 1)", x.row(row, 0, 1), 1);
        }
        Due.is(x.count(0), 8);
    }

    @Says("or have a LANE (0 bytes, 1 shorts, 2 ints)")
    static void p02_lanesGoFrom0To2() {
        FogSheets x = threeRows(1);
        Due.are(new long[] {x.set(0, 0, 65536 + 256 + 5), x.set(1, 0, 65536 + 256 + 5), x.set(2, 0, 65536 + 256 + 5)},
            5, 261, 65797);
    }

    @Says("and 0 to 40 ITEMS")
    static void p02_aRowOfNoItemsIsThere() {
        FogSheets x = new FogSheets();
        Due.are(new long[] {x.row(3, 0, 0), x.count(0), x.set(3, 0, 1), x.drop(3)}, 0, 1, PLACE, 0);
    }

    @Says("and 0 to 40 ITEMS")
    static void p02_aRowOf40ItemsHasThemAll() {
        FogSheets x = new FogSheets();
        for (int lane = 0; lane <= 2; lane++) {
            Due.are(new long[] {x.row(lane, lane, 40), x.set(lane, 39, 7), x.set(lane, 40, 7)}, 40, 7, PLACE);
        }
    }

    @Says("ITEMS, 0 at first")
    static void p02_itemsAre0AtFirst() {
        FogSheets x = Items.estuary();
        x.row(0, 2, 40);
        Due.are(Items.of(x, 0, 40), new long[40]);
    }

    @Says({"in place of what is there", "0 at first"})
    static void p02_madeAgainItsItemsAre0() {
        FogSheets x = Items.estuary();
        x.row(0, 2, 3);
        Items.put(x, 0, 9, 8, 7);
        x.row(0, 2, 3);
        Due.are(Items.of(x, 0, 3), 0, 0, 0);
        Items.put(x, 0, 9, 8, 7);
        x.drop(0);
        x.row(0, 2, 3);
        Due.are(Items.of(x, 0, 3), 0, 0, 0);
    }

    @Says("in place of what is there")
    static void p02_madeAgainItIsShorterThen() {
        FogSheets x = Items.estuary();
        x.row(0, 2, 3);
        Items.put(x, 0, 9, 8, 7);
        Due.are(new long[] {x.row(0, 2, 1), x.set(0, 1, 0), x.row(0, 2, 3), x.count(0)}, 1, PLACE, 3, 1);
        Due.are(Items.of(x, 0, 3), 0, 0, 0);
    }

    @Says("in place of what is there")
    static void p02_madeAgainItHasTheNewLane() {
        FogSheets x = threeRows(2);
        x.row(0, 2, 2);
        x.row(2, 0, 2);
        Due.are(new long[] {x.set(0, 0, 300), x.set(2, 0, 300), x.copy(0, 0, 2, 0, 1)}, 300, 44, STORE);
    }

    @Says("BAD: ROW")
    static void p02_noSuchRow() {
        FogSheets x = new FogSheets();
        Due.are(new long[] {x.row(-1, 0, 1), x.row(8, 0, 1), x.row(LEAST, 0, 1), x.row(MOST, 0, 1), x.count(0)},
            BAD, BAD, BAD, BAD, 0);
    }

    @Says("LANE, n above 40")
    static void p02_noSuchLane() {
        FogSheets x = new FogSheets();
        Due.are(new long[] {x.row(0, -1, 1), x.row(0, 3, 1), x.row(0, LEAST, 1), x.row(0, MOST, 1), x.count(0)},
            BAD, BAD, BAD, BAD, 0);
    }

    @Says("n above 40")
    static void p02_moreThan40Items() {
        FogSheets x = new FogSheets();
        Due.are(new long[] {x.row(0, 0, 41), x.row(0, 2, MOST), x.count(0), x.row(0, 0, 40)}, BAD, BAD, 0, 40);
    }

    @Says({"; SIZE.", "4 SIZE (fewer than none)"})
    static void p02_fewerThanNone() {
        FogSheets x = new FogSheets();
        Due.are(new long[] {x.row(0, 0, -1), x.status(), x.row(7, 2, LEAST), x.status(), x.count(0)},
            SIZE, 4, SIZE, 4, 0);
    }

    @Says("Refusals are answers, the first of these that fits, but as told")
    static void p02_badAheadOfSize() {
        FogSheets x = new FogSheets();
        Due.are(new long[] {x.row(8, 0, -1), x.row(-1, 0, -1), x.row(0, 3, -1), x.row(0, -1, -1), x.status()},
            BAD, BAD, BAD, BAD, 0);
    }

    @Says("What is refused, or found, changes nothing but status().")
    static void p02_aRefusedRowStaysAsItWas() {
        FogSheets x = Items.estuary();
        x.row(1, 0, 2);
        Items.put(x, 1, 9, 8);
        x.row(1, 2, -1);
        x.row(1, 2, 41);
        x.row(1, 3, 1);
        Due.are(Items.of(x, 1, 2), 9, 8);
        Due.are(new long[] {x.set(1, 0, 256 + 7), x.drop(1)}, 7, 2);
        Sight.changesNothing(y -> {
            y.row(0, 1, 41);
            y.row(0, 3, 1);
            y.row(8, 0, 1);
        });
        Sight.changesOnlyStatus(y -> y.row(0, 1, -1), 4);
    }

    // ---- 3: set

    @Says("ITEM i becomes v")
    static void p03_thisItemAlone() {
        FogSheets x = threeRows(3);
        Due.is(x.set(2, 1, 7), 7);
        Due.are(Items.of(x, 2, 3), 0, 7, 0);
        Due.are(Items.of(x, 1, 3), 0, 0, 0);
        Due.is(x.set(2, 1, 3), 3);
        Due.are(Items.of(x, 2, 3), 0, 3, 0);
    }

    @Says("its lowest bits, as many as the LANE has: what it is then.")
    static void p03_bytesWrapAround() {
        FogSheets x = threeRows(1);
        Due.are(new long[] {x.set(0, 0, 127), x.set(0, 0, 128), x.set(0, 0, 255), x.set(0, 0, 256), x.set(0, 0, -128),
            x.set(0, 0, -129), x.set(0, 0, LEAST), x.set(0, 0, MOST)}, 127, -128, -1, 0, -128, 127, 0, -1);
    }

    @Says("its lowest bits, as many as the LANE has: what it is then.")
    static void p03_shortsWrapAround() {
        FogSheets x = threeRows(1);
        Due.are(new long[] {x.set(1, 0, 32767), x.set(1, 0, 32768), x.set(1, 0, 65535), x.set(1, 0, 65536),
            x.set(1, 0, -32768), x.set(1, 0, -32769), x.set(1, 0, LEAST), x.set(1, 0, MOST)},
            32767, -32768, -1, 0, -32768, 32767, 0, -1);
    }

    @Says("its lowest bits, as many as the LANE has: what it is then.")
    static void p03_intsStayWhole() {
        FogSheets x = threeRows(1);
        Due.are(new long[] {x.set(2, 0, LEAST), x.set(2, 0, MOST), x.set(2, 0, 65536), x.set(2, 0, -1)},
            LEAST, MOST, 65536, -1);
    }

    @Says("its lowest bits, as many as the LANE has")
    static void p03_theItemIsWhatIsAnswered() {
        FogSheets x = threeRows(1);
        x.set(0, 0, 256 + 6);
        x.set(1, 0, 65536 + 6);
        x.set(2, 0, 256 + 6);
        Due.are(new long[] {Items.at(x, 0, 0), Items.at(x, 1, 0), Items.at(x, 2, 0)}, 6, 6, -1);
    }

    @Says("BAD: ROW;")
    static void p03_noSuchRow() {
        FogSheets x = new FogSheets();
        Due.are(new long[] {x.set(-1, 0, 0), x.set(8, 0, 0), x.set(LEAST, 0, 0), x.set(MOST, 0, 0)},
            BAD, BAD, BAD, BAD);
    }

    @Says({"NULL", "1 NULL (a ROW that is missing)"})
    static void p03_theRowIsMissing() {
        FogSheets x = new FogSheets();
        Due.are(new long[] {x.set(0, 0, 0), x.status(), x.set(7, 0, 0), x.set(3, -1, 0)}, NULL, 1, NULL, NULL);
    }

    @Says({"PLACE", "2 PLACE (no such place of a ROW)"})
    static void p03_noSuchPlace() {
        FogSheets x = threeRows(2);
        Due.are(new long[] {x.set(0, 1, 5), x.set(0, 2, 5), x.status(), x.set(0, -1, 5), x.set(0, LEAST, 5),
            x.set(0, MOST, 5)}, 5, PLACE, 2, PLACE, PLACE, PLACE);
        x.row(0, 0, 0);
        Due.is(x.set(0, 0, 5), PLACE);
    }

    @Says("What is refused, or found, changes nothing but status().")
    static void p03_refusedNoItemChanges() {
        FogSheets x = threeRows(2);
        Items.put(x, 2, 9, 8);
        x.set(2, 2, 7);
        x.set(2, -1, 7);
        Due.are(Items.of(x, 2, 2), 9, 8);
        Sight.changesNothing(y -> y.set(8, 0, 1));
        Sight.changesOnlyStatus(y -> y.set(0, 3, 1), 2);
        Sight.changesOnlyStatus(y -> y.set(1, 0, 1), 1);
    }

    // ---- 4: copy

    @Says("n ITEMS of a from i on come to b from j on")
    static void p04_fromOneToAnother() {
        FogSheets x = Items.estuary();
        x.row(0, 2, 5);
        x.row(1, 2, 4);
        Items.put(x, 0, 2, 3, 4, 5, 6);
        Items.put(x, 1, 9, 9, 9, 9);
        Due.is(x.copy(0, 2, 1, 1, 2), 2);
        Due.are(Items.of(x, 1, 4), 9, 4, 5, 9);
        Due.are(Items.of(x, 0, 5), 2, 3, 4, 5, 6);
    }

    @Says("n ITEMS of a from i on come to b from j on")
    static void p04_inEachLane() {
        for (int lane = 0; lane <= 2; lane++) {
            FogSheets x = Items.estuary();
            x.row(0, lane, 40);
            x.row(1, lane, 40);
            Items.put(x, 0, 5, 6);
            Due.is("lane " + lane, x.copy(0, 0, 1, 38, 2), 2);
            Due.are(new long[] {Items.at(x, 1, 37), Items.at(x, 1, 38), Items.at(x, 1, 39)}, 0, 5, 6);
        }
    }

    @Says("as they were ahead")
    static void p04_upWithinOne() {
        FogSheets x = Items.estuary();
        x.row(0, 2, 5);
        Items.put(x, 0, 2, 3, 4, 5, 6);
        Due.is(x.copy(0, 0, 0, 1, 4), 4);
        Due.are(Items.of(x, 0, 5), 2, 2, 3, 4, 5);
    }

    @Says("as they were ahead")
    static void p04_downWithinOne() {
        FogSheets x = Items.estuary();
        x.row(0, 2, 5);
        Items.put(x, 0, 2, 3, 4, 5, 6);
        Due.is(x.copy(0, 1, 0, 0, 4), 4);
        Due.are(Items.of(x, 0, 5), 3, 4, 5, 6, 6);
    }

    @Says("as they were ahead")
    static void p04_toItself() {
        FogSheets x = Items.estuary();
        x.row(0, 2, 3);
        Items.put(x, 0, 2, 3, 4);
        Due.is(x.copy(0, 0, 0, 0, 3), 3);
        Due.are(Items.of(x, 0, 3), 2, 3, 4);
    }

    @Says("as they were ahead: n.")
    static void p04_noneIsCopiedAtTheEnds() {
        FogSheets x = threeRows(5);
        x.row(3, 0, 3);
        x.row(4, 0, 0);
        Due.are(new long[] {x.copy(0, 5, 3, 3, 0), x.copy(0, 0, 3, 0, 0), x.copy(4, 0, 4, 0, 0), x.status()},
            0, 0, 0, 0);
    }

    @Says("BAD: ROWS;")
    static void p04_noSuchRows() {
        FogSheets x = threeRows(2);
        Due.are(new long[] {x.copy(-1, 0, 0, 0, 0), x.copy(8, 0, 0, 0, 0), x.copy(0, 0, -1, 0, 0),
            x.copy(0, 0, 8, 0, 0), x.copy(LEAST, 0, 0, 0, 0), x.copy(0, 0, MOST, 0, 0)}, BAD, BAD, BAD, BAD, BAD, BAD);
    }

    @Says("Refusals are answers, the first of these that fits, but as told")
    static void p04_badAheadOfMissing() {
        FogSheets x = threeRows(2);
        Due.are(new long[] {x.copy(3, 0, 8, 0, 0), x.copy(8, 0, 3, 0, 0), x.copy(0, -1, 8, -1, -1), x.status()},
            BAD, BAD, BAD, 0);
    }

    @Says("NULL")
    static void p04_aRowIsMissing() {
        FogSheets x = threeRows(2);
        Due.are(new long[] {x.copy(3, 0, 0, 0, 1), x.status(), x.copy(0, 0, 3, 0, 1), x.copy(3, 0, 3, 0, 0),
            x.copy(3, 0, 4, 0, 0)}, NULL, 1, NULL, NULL, NULL);
    }

    @Says({"of several the first in time", "NULL; STORE; PLACE"})
    static void p04_missingAheadOfPlace() {
        FogSheets x = threeRows(2);
        Due.are(new long[] {x.copy(3, -1, 0, 0, 1), x.copy(0, -1, 3, 0, 1), x.copy(0, 0, 3, 0, -1)}, NULL, NULL, NULL);
    }

    @Says({"STORE", "5 STORE (ROWS of two LANES)"})
    static void p04_twoLanes() {
        FogSheets x = threeRows(2);
        Due.are(new long[] {x.copy(0, 0, 1, 0, 1), x.status(), x.copy(1, 0, 0, 0, 1), x.copy(1, 0, 2, 0, 1),
            x.copy(2, 0, 0, 0, 1)}, STORE, 5, STORE, STORE, STORE);
    }

    @Says("STORE")
    static void p04_twoLanesWhereNoneIsCopied() {
        FogSheets x = threeRows(2);
        Due.are(new long[] {x.copy(0, 0, 1, 0, 0), x.copy(2, 2, 1, 2, 0)}, STORE, STORE);
    }

    @Says({"of several the first in time", "NULL; STORE; PLACE"})
    static void p04_twoLanesAheadOfPlace() {
        FogSheets x = threeRows(2);
        Due.are(new long[] {x.copy(0, -1, 1, 0, 1), x.copy(0, 0, 1, 3, 0), x.copy(0, 0, 1, 0, -1)},
            STORE, STORE, STORE);
    }

    @Says("PLACE (i, j, n below 0")
    static void p04_below0() {
        FogSheets x = Items.estuary();
        x.row(0, 0, 5);
        x.row(1, 0, 3);
        Due.are(new long[] {x.copy(0, -1, 1, 0, 1), x.status(), x.copy(0, 0, 1, -1, 1), x.copy(0, 1, 1, 1, -1),
            x.copy(0, -1, 1, 0, 0), x.copy(0, 0, 1, -1, 0)}, PLACE, 2, PLACE, PLACE, PLACE, PLACE);
    }

    @Says("or beyond an end)")
    static void p04_beyondAnEnd() {
        FogSheets x = Items.estuary();
        x.row(0, 0, 5);
        x.row(1, 0, 3);
        Due.are(new long[] {x.copy(1, 1, 0, 0, 3), x.copy(0, 0, 1, 1, 3), x.copy(0, 6, 1, 0, 0), x.copy(0, 0, 1, 4, 0),
            x.copy(0, 5, 1, 0, 1), x.copy(0, 0, 1, 3, 1), x.copy(0, 2, 1, 0, 3)},
            PLACE, PLACE, PLACE, PLACE, PLACE, PLACE, 3);
    }

    @Says("or beyond an end)")
    static void p04_farBeyondAnEnd() {
        FogSheets x = Items.estuary();
        x.row(0, 0, 5);
        x.row(1, 0, 3);
        Due.are(new long[] {x.copy(0, MOST, 1, 0, 1), x.copy(0, 1, 1, MOST, 1), x.copy(0, 1, 1, 1, MOST),
            x.copy(0, LEAST, 1, 0, 1), x.copy(0, 0, 1, LEAST, 1), x.copy(0, 1, 1, 1, LEAST),
            x.copy(0, MOST, 1, MOST, MOST), x.copy(0, LEAST, 1, LEAST, LEAST), x.copy(0, MOST, 1, MOST, 2)},
            PLACE, PLACE, PLACE, PLACE, PLACE, PLACE, PLACE, PLACE, PLACE);
    }

    @Says("What is refused, or found, changes nothing but status().")
    static void p04_refusedNoItemComes() {
        FogSheets x = Items.estuary();
        x.row(0, 2, 3);
        x.row(1, 2, 2);
        Items.put(x, 0, 5, 6, 7);
        Items.put(x, 1, 9, 8);
        x.copy(0, 0, 1, 0, 3);
        x.copy(0, 1, 1, 1, 2);
        Due.are(Items.of(x, 1, 2), 9, 8);
        Sight.changesNothing(y -> y.copy(0, 0, 8, 0, 1));
        Sight.changesOnlyStatus(y -> y.copy(0, 0, 1, 0, 1), 1);
        Sight.changesOnlyStatus(y -> y.copy(0, 0, 2, 0, 1), 5);
        Sight.changesOnlyStatus(y -> y.copy(0, 0, 0, 2, 2), 2);
    }

    // ---- 5: drop

    @Says("A ROW is missing from now on")
    static void p05_missingFromNowOn() {
        FogSheets x = threeRows(2);
        x.drop(1);
        Due.are(new long[] {x.set(1, 0, 0), x.copy(1, 0, 1, 0, 0), x.who(0, 0, 1, 0, 1), x.gusts(0, 1, 0, 1),
            x.drop(1), x.count(0)}, NULL, NULL, NULL, NULL, NULL, 2);
    }

    @Says("A ROW is missing from now on")
    static void p05_theOthersStay() {
        FogSheets x = threeRows(2);
        Items.put(x, 0, 9, 8);
        Items.put(x, 2, 7, 6);
        x.drop(1);
        Due.are(Items.of(x, 0, 2), 9, 8);
        Due.are(Items.of(x, 2, 2), 7, 6);
    }

    @Says("how many ITEMS it had.")
    static void p05_howManyItHad() {
        FogSheets x = new FogSheets();
        x.row(0, 0, 0);
        x.row(3, 1, 7);
        x.row(7, 2, 40);
        Due.are(new long[] {x.drop(0), x.drop(3), x.drop(7), x.count(0)}, 0, 7, 40, 0);
    }

    @Says("BAD;")
    static void p05_noSuchRow() {
        FogSheets x = new FogSheets();
        Due.are(new long[] {x.drop(-1), x.drop(8), x.drop(LEAST), x.drop(MOST)}, BAD, BAD, BAD, BAD);
    }

    @Says("NULL.")
    static void p05_missingAlready() {
        FogSheets x = new FogSheets();
        x.row(3, 0, 1);
        Due.are(new long[] {x.drop(3), x.drop(3), x.status(), x.drop(0)}, 1, NULL, 1, NULL);
    }

    @Says("What is refused, or found, changes nothing but status().")
    static void p05_refusedNoRowGoes() {
        Sight.changesNothing(y -> y.drop(8));
        Sight.changesOnlyStatus(y -> y.drop(1), 1);
    }

    // ---- 40: status

    @Says("0: it had none, or there was none.")
    static void p40_0AtFirst() {
        Due.is(new FogSheets().status(), 0);
    }

    @Says({"the number of its FINDING;", "-1000010 less"})
    static void p40_eachFindingHasItsNumber() {
        FogSheets x = threeRows(1);
        long[] found = {x.set(3, 0, 0), x.status(), x.set(0, 1, 0), x.status(), x.as(0, 1), x.status(),
            x.row(0, 0, -1), x.status(), x.copy(0, 0, 1, 0, 1), x.status()};
        Due.are(found, NULL, 1, PLACE, 2, KIND, 3, SIZE, 4, STORE, 5);
    }

    @Says("Of the latest call with a ROW")
    static void p40_eachCallWithARowFinds() {
        FogSheets x = threeRows(1);
        x.row(3, 0, -1);
        Due.is(x.status(), 4);
        x.set(3, 0, 0);
        Due.is(x.status(), 1);
        x.copy(0, 0, 1, 0, 1);
        Due.is(x.status(), 5);
        x.drop(3);
        Due.is(x.status(), 1);
        x.who(0, 0, 0, 1, 1);
        Due.is(x.status(), 2);
        x.as(0, 1);
        Due.is(x.status(), 3);
        x.gusts(0, 0, 1, 1);
        Due.is(x.status(), 2);
    }

    @Says("0: it had none")
    static void p40_eachCallWithARowThatFindsNothing() {
        FogSheets x = threeRows(1);
        long[] status = new long[6];
        for (int i = 0; i < 6; i++) {
            x.set(7, 0, 0);
            switch (i) {
                case 0 -> x.row(3, 0, 1);
                case 1 -> x.set(0, 0, 0);
                case 2 -> x.copy(0, 0, 0, 0, 1);
                case 3 -> x.drop(3);
                case 4 -> x.who(0, 0, 0, 0, 1);
                default -> x.gusts(0, 0, 0, 1);
            }
            status[i] = x.status();
        }
        Due.are(status, 0, 0, 0, 0, 0, 0);
    }

    @Says("or as()")
    static void p40_asFindsOrDoesNot() {
        FogSheets x = threeRows(1);
        Due.are(new long[] {x.as(0, 1), x.status(), x.as(0, 5), x.status()}, KIND, 3, 0, 0);
    }

    @Says("that was not BAD, STATE, FULL")
    static void p40_badLeavesIt() {
        FogSheets x = threeRows(1);
        x.set(3, 0, 0);
        Due.are(new long[] {x.row(8, 0, 1), x.set(8, 0, 0), x.copy(0, 0, 8, 0, 0), x.drop(8), x.who(0, 0, 8, 0, 1),
            x.who(0, 0, 0, 0, 13), x.gusts(0, 8, 0, 1), x.gusts(0, 0, 0, 13), x.as(1, 0), x.as(0, 6), x.status()},
            BAD, BAD, BAD, BAD, BAD, BAD, BAD, BAD, BAD, BAD, 1);
    }

    @Says("that was not BAD, STATE, FULL")
    static void p40_badLeavesIt0() {
        FogSheets x = threeRows(1);
        x.row(8, 0, -1);
        x.set(8, 9, 0);
        x.who(0, 0, 3, 0, 13);
        Due.is(x.status(), 0);
    }

    @Says("that was not BAD, STATE, FULL")
    static void p40_stateLeavesIt() {
        FogSheets x = Tapes.estuary("e6,0,0,0;g2;w0,1,1;", 1);
        x.row(0, 0, 1);
        Due.are(new long[] {x.set(0, 1, 0), x.who(0, 0, 0, 0, 1), x.status()}, PLACE, STATE, 2);
        Due.are(new long[] {x.set(0, 0, 0), x.who(0, 0, 3, 0, 1), x.status()}, 0, STATE, 0);
    }

    @Says("that was not BAD, STATE, FULL")
    static void p40_fullLeavesIt() {
        FogSheets x = new FogSheets();
        x.drop(0);
        for (int i = 0; i < 120; i++) {
            x.feed('e');
        }
        Due.are(new long[] {x.feed('e'), x.status()}, FULL, 1);
    }

    @Says("Of the latest call with a ROW, or as()")
    static void p40_callsWithoutARowLeaveIt() {
        FogSheets x = Sight.made();
        Due.is(x.status(), 1);
        x.hours(1);
        x.step(0);
        x.let(2, 0, 1);
        x.ask(0, 0);
        x.ahead(0, 1, 0);
        x.lift(0, 1, 1, 0);
        x.drawn(5, 5, 0);
        x.undo();
        x.restore(0);
        x.estuary();
        x.fault();
        x.count(0);
        x.kind(0);
        Tapes.read(x, "e6,0,0,0;g2;s0,1,1;");
        Due.are(new long[] {x.status(), x.status()}, 1, 1);
    }
}
