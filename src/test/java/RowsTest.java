/** Promises 1 to 5 and 40: a new object, rows, and the status of calls with a row. */
public final class RowsTest {
    private static final int BAD = FogSheets.BAD, STATE = FogSheets.STATE;
    private static final int NULL = -1000011, PLACE = -1000012, KIND = -1000013, SIZE = -1000014, STORE = -1000015;

    /** Over the walker it is 9 behind an hour of calm and 8 behind any other: gusts() tells these items apart. */
    private static final String CLERK = "e6,0,0,0;g2;o0,1,9;";

    public static void main(String[] args) {
        promise1();
        promise2();
        promise3();
        promise4();
        copyRefuses();
        promise5();
        promise40();
        statusOfEstuaryCalls();
        Due.end();
    }

    /** 9, 8, or 0 for any other item. */
    private static int item(FogSheets x, int row, int i) {
        int gusts = x.gusts(0, row, i, 1);
        return gusts == 4 ? 9 : gusts == 27 ? 8 : gusts;
    }

    private static long[] items(FogSheets x, int row, int n) {
        long[] items = new long[n];
        for (int i = 0; i < n; i++) {
            items[i] = item(x, row, i);
        }
        return items;
    }

    private static void setAll(FogSheets x, int row, int... items) {
        for (int i = 0; i < items.length; i++) {
            x.set(row, i, items[i]);
        }
    }

    private static void promise1() {
        FogSheets x = new FogSheets();
        for (int what = 0; what <= 7; what++) {
            Due.is("1: count(" + what + ")", x.count(what), 0);
        }
        Due.is("1: no estuary", x.stand(0), STATE);
        Due.is("1: fault", x.fault(), 0);
        Due.is("1: status", x.status(), 0);
        Due.is("1: undo", x.undo(), STATE);
        Due.is("1: trace", x.trace(0), FogSheets.NONE);
        for (int row = 0; row < 8; row++) {
            Due.is("1: row " + row + " is missing", x.drop(row), NULL);
        }
        Due.is("1: NONE", FogSheets.NONE, -1000000);
        Due.is("1: BAD", FogSheets.BAD, -1000001);
        Due.is("1: STATE", FogSheets.STATE, -1000002);
        Due.is("1: FULL", FogSheets.FULL, -1000003);
    }

    private static void promise2() {
        FogSheets x = Tapes.estuary(CLERK);
        Due.is("2: no items", x.row(0, 0, 0), 0);
        Due.is("2: most items", x.row(7, 2, 40), 40);
        Due.is("2: two rows", x.count(0), 2);
        Due.is("2: row -1", x.row(-1, 0, 1), BAD);
        Due.is("2: row 8", x.row(8, 0, 1), BAD);
        Due.is("2: lane -1", x.row(1, -1, 1), BAD);
        Due.is("2: lane 3", x.row(1, 3, 1), BAD);
        Due.is("2: 41 items", x.row(1, 0, 41), BAD);
        Due.is("2: BAD ahead of SIZE, row", x.row(8, 0, -1), BAD);
        Due.is("2: BAD ahead of SIZE, lane", x.row(0, 3, -1), BAD);
        Due.is("2: fewer than none", x.row(0, 0, -1), SIZE);
        Due.is("2: far fewer", x.row(0, 0, Integer.MIN_VALUE), SIZE);
        Due.is("2: refused rows are not there", x.count(0), 2);
        x.row(1, 0, 2);
        setAll(x, 1, 9, 9);
        x.row(1, 2, -1);
        x.row(1, 2, 41);
        Due.are("2: what is found changes nothing", items(x, 1, 2), 9, 9);
        Due.is("2: nor the lane", x.set(1, 1, 256 + 9), 9);
        Due.is("2: in place of what is there", x.row(1, 2, 3), 3);
        Due.are("2: 0 at first", items(x, 1, 3), 0, 0, 0);
        Due.is("2: its lane is the new one", x.set(1, 2, 70000), 70000);
    }

    private static void promise3() {
        FogSheets x = new FogSheets();
        x.row(0, 0, 2);
        x.row(1, 1, 2);
        x.row(2, 2, 2);
        Due.is("3: byte", x.set(0, 0, 127), 127);
        Due.is("3: byte 128", x.set(0, 0, 128), -128);
        Due.is("3: byte 511", x.set(0, 1, 511), -1);
        Due.is("3: byte 256", x.set(0, 1, 256), 0);
        Due.is("3: short", x.set(1, 0, 32767), 32767);
        Due.is("3: short 32768", x.set(1, 0, 32768), -32768);
        Due.is("3: short 65535", x.set(1, 1, 65535), -1);
        Due.is("3: int", x.set(2, 1, Integer.MIN_VALUE), Integer.MIN_VALUE);
        Due.is("3: row -1", x.set(-1, 0, 0), BAD);
        Due.is("3: row 8", x.set(8, 0, 0), BAD);
        Due.is("3: missing", x.set(3, 0, 0), NULL);
        Due.is("3: missing ahead of place", x.set(3, -1, 0), NULL);
        Due.is("3: place -1", x.set(0, -1, 0), PLACE);
        Due.is("3: place 2", x.set(0, 2, 0), PLACE);
        x.row(4, 0, 0);
        Due.is("3: no place at all", x.set(4, 0, 0), PLACE);
    }

    private static void promise4() {
        FogSheets x = Tapes.estuary(CLERK);
        x.row(0, 2, 5);
        x.row(1, 2, 3);
        setAll(x, 0, 9, 8, 0, 0, 0);
        Due.is("4: up within a row", x.copy(0, 0, 0, 1, 4), 4);
        Due.are("4: as they were ahead", items(x, 0, 5), 9, 9, 8, 0, 0);
        setAll(x, 0, 0, 0, 0, 9, 8);
        Due.is("4: down within a row", x.copy(0, 1, 0, 0, 4), 4);
        Due.are("4: as they were ahead, down", items(x, 0, 5), 0, 0, 9, 8, 8);
        Due.is("4: to another", x.copy(0, 2, 1, 1, 2), 2);
        Due.are("4: another", items(x, 1, 3), 0, 9, 8);
        Due.are("4: the first stays", items(x, 0, 5), 0, 0, 9, 8, 8);
        Due.is("4: none, at both ends", x.copy(0, 5, 1, 3, 0), 0);
        Due.is("4: all", x.copy(1, 0, 0, 2, 3), 3);
    }

    private static void copyRefuses() {
        FogSheets x = new FogSheets();
        x.row(0, 0, 5);
        x.row(1, 1, 3);
        x.row(2, 0, 3);
        Due.is("4: row -1", x.copy(-1, 0, 0, 0, 0), BAD);
        Due.is("4: row 8", x.copy(0, 0, 8, 0, 0), BAD);
        Due.is("4: missing a", x.copy(3, 0, 0, 0, 0), NULL);
        Due.is("4: missing b", x.copy(0, 0, 3, 0, 0), NULL);
        Due.is("4: BAD ahead of missing", x.copy(3, 0, 8, 0, 0), BAD);
        Due.is("4: missing ahead of lanes and place", x.copy(1, -1, 3, 0, 0), NULL);
        Due.is("4: two lanes", x.copy(0, 0, 1, 0, 1), STORE);
        Due.is("4: two lanes, none", x.copy(0, 0, 1, 0, 0), STORE);
        Due.is("4: lanes ahead of place", x.copy(0, -1, 1, 0, 1), STORE);
        Due.is("4: i below 0", x.copy(0, -1, 2, 0, 1), PLACE);
        Due.is("4: j below 0", x.copy(0, 0, 2, -1, 1), PLACE);
        Due.is("4: n below 0", x.copy(0, 0, 2, 0, -1), PLACE);
        Due.is("4: beyond a's end", x.copy(2, 1, 0, 0, 3), PLACE);
        Due.is("4: beyond b's end", x.copy(0, 0, 2, 1, 3), PLACE);
        Due.is("4: i behind the end", x.copy(0, 6, 2, 0, 0), PLACE);
        Due.is("4: j behind the end", x.copy(0, 0, 2, 4, 0), PLACE);
        Due.is("4: far beyond, i", x.copy(0, Integer.MAX_VALUE, 2, 0, 1), PLACE);
        Due.is("4: far beyond, n", x.copy(0, 1, 2, 1, Integer.MAX_VALUE), PLACE);
        Due.is("4: far below", x.copy(0, 1, 2, 1, Integer.MIN_VALUE), PLACE);
    }

    private static void promise5() {
        FogSheets x = new FogSheets();
        x.row(3, 1, 7);
        x.row(4, 1, 0);
        Due.is("5: how many it had", x.drop(3), 7);
        Due.is("5: it had none", x.drop(4), 0);
        Due.is("5: missing from now on", x.drop(3), NULL);
        Due.is("5: no rows", x.count(0), 0);
        Due.is("5: row -1", x.drop(-1), BAD);
        Due.is("5: row 8", x.drop(8), BAD);
        Due.is("5: it can be made again", x.row(3, 0, 2), 2);
    }

    private static void promise40() {
        FogSheets x = new FogSheets();
        x.row(0, 0, -1);
        Due.is("40: SIZE", x.status(), 4);
        x.row(8, 0, 1);
        Due.is("40: BAD leaves it", x.status(), 4);
        x.feed(300);
        x.estuary();
        x.hours(1);
        x.count(0);
        Due.is("40: calls with no row leave it", x.status(), 4);
        x.set(0, 0, 0);
        Due.is("40: NULL", x.status(), 1);
        x.row(0, 0, 1);
        Due.is("40: none", x.status(), 0);
        x.set(0, 1, 0);
        Due.is("40: PLACE", x.status(), 2);
        x.set(0, 0, 0);
        Due.is("40: none by set", x.status(), 0);
        x.row(1, 1, 1);
        x.copy(0, 0, 1, 0, 1);
        Due.is("40: STORE", x.status(), 5);
        x.copy(0, 0, 0, 0, 1);
        Due.is("40: none by copy", x.status(), 0);
        x.drop(5);
        Due.is("40: NULL by drop", x.status(), 1);
        x.drop(0);
        Due.is("40: none by drop", x.status(), 0);
    }

    private static void statusOfEstuaryCalls() {
        FogSheets x = Tapes.estuary("e6,0,0,0;g2;o0,1,9;w5,1,1;");
        x.row(0, 0, 1);
        Due.is("40: as", x.as(0, 1), KIND);
        Due.is("40: KIND", x.status(), 3);
        x.as(2, 0);
        Due.is("40: BAD as leaves it", x.status(), 3);
        x.as(0, 5);
        Due.is("40: none by as", x.status(), 0);
        x.who(0, 0, 1, 0, 1);
        Due.is("40: NULL by who", x.status(), 1);
        x.hours(1);
        Due.is("40: gone", x.who(1, 0, 0, 0, 1), STATE);
        Due.is("40: STATE leaves it", x.status(), 1);
        x.who(0, 0, 0, 0, 1);
        Due.is("40: none by who", x.status(), 0);
        x.gusts(0, 0, 1, 1);
        Due.is("40: PLACE by gusts", x.status(), 2);
        x.gusts(0, 0, 0, 13);
        Due.is("40: BAD gusts leaves it", x.status(), 2);
        x.gusts(0, 0, 0, 1);
        Due.is("40: none by gusts", x.status(), 0);
    }
}
