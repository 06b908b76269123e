/** Promises 9 to 17: acts, what undoes them, and what is where. */
public final class DoneTest {
    private static final int NONE = FogSheets.NONE, BAD = FogSheets.BAD, STATE = FogSheets.STATE;
    private static final int FULL = FogSheets.FULL;
    private static final int[] BANK_DRIFT = {-1, 0, 0, 0, 1};

    public static void main(String[] args) {
        promise9();
        oldestIsForgotten();
        evenHour();
        oddHour();
        ends();
        thins();
        numbers();
        clerkSleeps();
        promise10();
        promise11();
        promise12();
        promise13();
        promise14();
        promise15();
        promise16();
        promise17();
        Due.end();
    }

    private static void promise9() {
        FogSheets x = Tapes.estuary("e6,0,2,15;g2;g3;o0,1,5;w5,1,1;");
        Due.is("9: none", x.undo(), STATE);
        x.hours(1);
        x.step(1);
        x.wind(1, 0);
        x.wake(3);
        Due.is("9: let in", x.let(1, 0, 9), 3);
        Due.is("9: five", x.count(6), 5);
        Due.is("9: let undone", x.undo(), 4);
        Due.are("9: gone again", new long[] {x.sheet(1, 0), x.ask(1, 1), x.stand(4)}, NONE, 1 + 1 - 1000, 1);
        Due.is("9: wake undone", x.undo(), 3);
        Due.is("9: awake", x.stand(3), 15);
        Due.is("9: wind undone", x.undo(), 2);
        Due.is("9: wind", x.stand(7), 3);
        Due.is("9: step undone", x.undo(), 1);
        Due.is("9: walker", x.stand(2), 2);
        Due.is("9: hour undone", x.undo(), 0);
        Due.are("9: as at first", new long[] {x.count(3), x.count(4), x.count(5), x.sheet(0, 2), x.sheet(0, 3)},
            0, 0, 2, 5, 0);
        Due.is("9: none is left", x.undo(), STATE);
        x.step(0);
        x.step(9);
        x.wind(0, 9);
        x.wake(16);
        x.hours(0);
        x.let(0, 0, 1);
        Due.is("9: what is refused is no act", x.count(6), 1);
    }

    private static void oldestIsForgotten() {
        FogSheets x = Tapes.estuary("e6,0,2,0;g2;o0,1,5;");
        x.step(1);
        x.hours(24);
        Due.is("9: 24 are kept", x.count(6), 24);
        for (int left = 23; left >= 0; left--) {
            Due.is("9: undo to " + left, x.undo(), left);
        }
        Due.is("9: the oldest is forgotten", x.undo(), STATE);
        Due.are("9: it stays done", new long[] {x.count(3), x.stand(2)}, 0, 3);
        x.hours(20);
        x.undo();
        x.hours(24);
        x.hours(3);
        Due.are("9: around", new long[] {x.count(3), x.count(6)}, 46, 24);
        x.undo();
        Due.is("9: the latest first", x.count(3), 45);
    }

    private static void kinds(FogSheets x, String name, int... want) {
        for (int s = 0; s < 5; s++) {
            Due.is("10: " + name + ", at of " + s, x.sheet(s, 0), want[2 * s]);
            Due.is("10: " + name + ", thick of " + s, x.sheet(s, 2), want[2 * s + 1]);
        }
    }

    private static void evenHour() {
        for (int v = 0; v <= 4; v++) {
            FogSheets x = Tapes.estuary("e16,0,0,0;g" + v + ";s8,1,5;b8,1,5;w8,1,5;h8,1,5;o8,1,5;");
            x.hours(1);
            boolean calm = v == 2;
            kinds(x, "even hour, wind " + v, 6 + v, 5, 8 + BANK_DRIFT[v], 5, 4 + 2 * v, 4, 7, calm ? 5 : 4,
                8, calm ? 6 : 4);
        }
    }

    private static void oddHour() {
        for (int v = 0; v <= 4; v++) {
            FogSheets x = Tapes.estuary("e16,0,0,0;g2;g" + v + ";s8,1,5;b8,1,5;w8,1,5;h8,1,5;o8,1,5;");
            x.hours(2);
            boolean calm = v == 2;
            kinds(x, "odd hour, wind " + v, 6 + v, 4, 8 + BANK_DRIFT[v], 4, 4 + 2 * v, 2, 6, calm ? 5 : 4,
                8, calm ? 7 : 5);
        }
    }

    private static void ends() {
        FogSheets x = Tapes.estuary("e6,0,0,0;g1;s0,2,5;s0,1,6;h0,1,7;b0,1,5;");
        x.hours(1);
        Due.are("10: below 0", new long[] {x.sheet(0, 0), x.sheet(0, 4), x.stand(4)}, -1, 1, 9);
        Due.is("10: its thick stays as it was", x.ask(1, 1), 1 + 6);
        x.hours(1);
        Due.are("10: beyond the lower end", new long[] {x.sheet(0, 0), x.sheet(0, 2), x.stand(4)}, NONE, 0, 8);
        FogSheets y = Tapes.estuary("e6,0,0,0;g3;s5,5,5;s4,5,5;w4,1,5;w3,1,5;");
        y.hours(1);
        Due.are("10: beyond the upper end", new long[] {y.stand(4), y.sheet(1, 0), y.sheet(1, 4), y.sheet(3, 0)},
            10, 5, 32, 5);
    }

    private static void thins() {
        FogSheets x = Tapes.estuary("e16,0,0,0;g2;s8,1,1;b8,1,1;w8,1,1;w8,1,2;w8,1,3;o8,1,9;");
        x.hours(1);
        Due.is("10: none left in an even hour", x.stand(4), 1 + 2 + 8 + 16 + 32);
        Due.is("10: 9 at most", x.sheet(5, 2), 9);
        x.hours(1);
        Due.is("10: none left in an odd hour", x.stand(4), 32);
        FogSheets y = Tapes.estuary("e6,0,0,0;g4;h5,1,2;o5,1,1;");
        y.hours(1);
        Due.is("10: an odd one goes", y.stand(4), 1);
        y.hours(1);
        Due.is("10: a haar goes", y.stand(4), 0);
    }

    private static void numbers() {
        FogSheets x = Tapes.estuary("e16,8,0,15;g3;s5,1,9;s7,1,9;o8,1,9;w4,3,9;w7,1,1;");
        Due.is("10: three in the first hour", x.hours(1), 3);
        Due.are("10: in the order of sheets", new long[] {x.sheet(0, 3), x.sheet(1, 3), x.sheet(2, 3), x.sheet(3, 3)},
            0, 1, 2, 3);
        Due.is("10: one that goes has none", x.sheet(4, 3), 0);
        Due.is("10: nobody new", x.hours(1), 3);
        Due.is("10: the last", x.hours(1), 4);
        Due.are("10: a number stays", new long[] {x.sheet(0, 3), x.sheet(1, 3), x.sheet(2, 3), x.sheet(3, 3)},
            4, 1, 2, 3);
        x.hours(24);
        Due.are("10: gone, and it stays", new long[] {x.stand(4), x.sheet(3, 3), x.stand(5), x.stand(6)}, 0, 3, 15, 5);
        x.let(3, 8, 9);
        x.wind(0, 2);
        Due.is("10: let in, and it stays", x.hours(1), 4);
        Due.is("10: its number", x.sheet(3, 3), 3);
    }

    private static void clerkSleeps() {
        for (int quarter = 0; quarter < 4; quarter++) {
            FogSheets x = Tapes.estuary("e6,3,0," + (1 << quarter) + ";g2;o3,1,9;");
            for (int hour = 0; hour < 4; hour++) {
                Due.is("10: awake " + quarter + " hour " + hour, x.hours(1), hour >= quarter ? 1 : 0);
            }
        }
        FogSheets x = Tapes.estuary("e6,3,0,1;g2;o2,1,9;");
        x.wake(0);
        x.hours(4);
        x.let(0, 3, 1);
        Due.is("10: never awake", x.hours(8), 0);
    }

    private static void promise10() {
        FogSheets x = new FogSheets();
        Due.is("10: no estuary", x.hours(1), STATE);
        Due.is("10: that ahead of BAD", x.hours(0), STATE);
        Tapes.read(x, "e6,0,0,0;g2;g3;o0,1,9;");
        Due.is("10: 0", x.hours(0), BAD);
        Due.is("10: 25", x.hours(25), BAD);
        Due.is("10: far below", x.hours(Integer.MIN_VALUE), BAD);
        Due.is("10: 24", x.hours(24), 0);
        Due.is("10: an act each", x.count(6), 24);
        for (int i = 0; i < 40; i++) {
            x.hours(24);
        }
        Due.is("10: hour", x.count(3), 984);
        Due.is("10: 1000", x.hours(16), FULL);
        Due.is("10: BAD ahead of FULL", x.hours(25), BAD);
        Due.is("10: all stays", x.count(3), 984);
        Due.is("10: 999", x.hours(15), 0);
        Due.is("10: hour 999", x.count(3), 999);
        Due.is("10: no more", x.hours(1), FULL);
        x.undo();
        Due.is("10: one more", x.hours(1), 0);
    }

    private static void promise11() {
        FogSheets x = new FogSheets();
        Due.is("11: no estuary", x.step(0), STATE);
        Due.is("11: that ahead of BAD", x.step(2), STATE);
        Tapes.read(x, "e6,0,1,0;g2;o0,1,9;");
        Due.is("11: -1", x.step(-1), BAD);
        Due.is("11: 2", x.step(2), BAD);
        Due.is("11: down", x.step(0), 0);
        Due.is("11: no such cell below", x.step(0), STATE);
        for (int c = 1; c <= 5; c++) {
            Due.is("11: up", x.step(1), c);
        }
        Due.is("11: no such cell above", x.step(1), STATE);
        Due.are("11: acts", new long[] {x.count(6), x.stand(2)}, 6, 5);
    }

    private static void promise12() {
        FogSheets x = new FogSheets();
        Due.is("12: no estuary", x.wind(0, 0), BAD);
        Tapes.read(x, "e6,0,1,0;g2;g1;o0,1,9;");
        Due.is("12: -1", x.wind(-1, 0), BAD);
        Due.is("12: wind 2 of two", x.wind(2, 0), BAD);
        Due.is("12: v -1", x.wind(0, -1), BAD);
        Due.is("12: v 5", x.wind(0, 5), BAD);
        Due.is("12: what it was", x.wind(0, 4), 2);
        Due.is("12: again", x.wind(0, 0), 4);
        Due.is("12: the other one", x.wind(1, 3), 1);
        Due.is("12: the same is an act, too", x.wind(1, 3), 3);
        Due.are("12: acts", new long[] {x.count(6), x.stand(7)}, 4, 0);
        x.hours(1);
        Due.is("12: the hour's wind", x.stand(7), 3);
    }

    private static void promise13() {
        FogSheets x = new FogSheets();
        Due.is("13: no estuary", x.wake(0), STATE);
        Due.is("13: that ahead of BAD", x.wake(16), STATE);
        Tapes.read(x, "e6,0,1,9;g2;g1;o0,1,9;");
        Due.is("13: -1", x.wake(-1), BAD);
        Due.is("13: 16", x.wake(16), BAD);
        Due.is("13: what it was", x.wake(15), 9);
        Due.is("13: again", x.wake(0), 15);
        Due.are("13: acts", new long[] {x.count(6), x.stand(3)}, 2, 0);
    }

    private static void promise14() {
        FogSheets x = new FogSheets();
        Due.is("14: no estuary", x.let(0, 0, 1), BAD);
        Tapes.read(x, "e6,0,1,9;g2;o0,1,9;w1,3,1;w1,2,1;");
        Due.is("14: it is in", x.let(1, 0, 1), STATE);
        Due.is("14: BAD ahead of STATE", x.let(1, 0, 10), BAD);
        x.hours(1);
        Due.is("14: sheet -1", x.let(-1, 0, 1), BAD);
        Due.is("14: sheet 3", x.let(3, 0, 1), BAD);
        Due.is("14: cell -1", x.let(1, -1, 1), BAD);
        Due.is("14: cell 6", x.let(1, 6, 1), BAD);
        Due.is("14: thick 0", x.let(1, 0, 0), BAD);
        Due.is("14: thick 10", x.let(1, 0, 10), BAD);
        Due.is("14: let in", x.let(1, 5, 9), 3);
        Due.are("14: as told", new long[] {x.sheet(1, 0), x.sheet(1, 1), x.sheet(1, 2), x.sheet(1, 4)}, 5, 3, 9, 32);
        Due.is("14: the other", x.let(2, 0, 1), 7);
        Due.is("14: it is in now", x.let(2, 0, 1), STATE);
        Due.is("14: acts", x.count(6), 3);
    }

    private static void promise15() {
        FogSheets x = new FogSheets();
        Due.is("15: no estuary", x.sheet(0, 0), BAD);
        Tapes.read(x, "e6,0,1,15;g1;s1,3,4;s5,4,5;w0,2,1;");
        Due.is("15: -1", x.sheet(-1, 0), BAD);
        Due.is("15: 3", x.sheet(3, 0), BAD);
        Due.is("15: what -1", x.sheet(0, -1), BAD);
        Due.is("15: what 5", x.sheet(0, 5), BAD);
        Due.are("15: 1", all(x, 1), 5, 4, 5, 0, 32);
        x.hours(2);
        Due.are("15: 0 below 0", all(x, 0), -1, 3, 3, 1, 3);
        Due.are("15: 2 is gone", all(x, 2), NONE, 2, 0, 0, 0);
    }

    private static long[] all(FogSheets x, int sheet) {
        long[] all = new long[5];
        for (int what = 0; what < 5; what++) {
            all[what] = x.sheet(sheet, what);
        }
        return all;
    }

    private static void promise16() {
        FogSheets x = new FogSheets();
        Due.is("16: no estuary", x.cell(0, 0), BAD);
        Tapes.read(x, "e6,0,2,15;g2;s1,3,4;o3,1,5;w2,2,1;");
        Due.is("16: -1", x.cell(-1, 0), BAD);
        Due.is("16: 6", x.cell(6, 0), BAD);
        Due.is("16: what -1", x.cell(0, -1), BAD);
        Due.is("16: what 3", x.cell(0, 3), BAD);
        int[][] want = {{0, 0, 0}, {4, 1, 0}, {5, 5, 1}, {10, 7, 0}, {0, 0, 0}, {0, 0, 0}};
        for (int c = 0; c < 6; c++) {
            Due.are("16: cell " + c, new long[] {x.cell(c, 0), x.cell(c, 1), x.cell(c, 2)}, want[c][0], want[c][1],
                want[c][2]);
        }
        x.hours(1);
        x.step(1);
        Due.are("16: one is gone", new long[] {x.cell(3, 0), x.cell(3, 1), x.cell(3, 2)}, 10, 3, 1);
    }

    private static void promise17() {
        FogSheets x = new FogSheets();
        Due.is("17: no estuary", x.stand(0), STATE);
        Due.is("17: that ahead of BAD", x.stand(8), STATE);
        Tapes.read(x, "e7,3,2,13;g4;g1;s1,3,4;o3,1,5;w6,2,1;");
        Due.is("17: -1", x.stand(-1), BAD);
        Due.is("17: 8", x.stand(8), BAD);
        Due.are("17: at first", stands(x), 7, 3, 2, 13, 7, 0, 1, 4);
        x.hours(1);
        x.step(0);
        Due.are("17: behind an hour", stands(x), 7, 3, 1, 13, 3, 3, 3, 1);
        x.hours(1);
        Due.is("17: winds come around", x.stand(7), 4);
    }

    private static long[] stands(FogSheets x) {
        long[] stands = new long[8];
        for (int what = 0; what < 8; what++) {
            stands[what] = x.stand(what);
        }
        return stands;
    }
}
