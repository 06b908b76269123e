/** Promises 6 to 8: the tape, estuaries that are read, faults. */
public final class TextsTest {
    private static final int BAD = FogSheets.BAD, STATE = FogSheets.STATE, FULL = FogSheets.FULL;

    public static void main(String[] args) {
        promise6();
        promise7();
        replaces();
        faults();
        faultsOfSheets();
        roomIsOut();
        promise8();
        Due.end();
    }

    private static void promise6() {
        FogSheets x = new FogSheets();
        Due.is("6: -1", x.feed(-1), BAD);
        Due.is("6: 256", x.feed(256), BAD);
        Due.is("6: 0", x.feed(0), 1);
        Due.is("6: 255", x.feed(255), 2);
        for (int i = 3; i <= 120; i++) {
            Due.is("6: byte " + i, x.feed('e'), i);
        }
        Due.is("6: a byte more", x.feed('e'), FULL);
        Due.is("6: BAD ahead of FULL", x.feed(256), BAD);
        Due.is("6: count", x.count(7), 120);
        Due.is("6: the first byte is no token", x.estuary(), -1000100);
        Due.is("6: empty then", x.count(7), 0);
    }

    private static void promise7() {
        FogSheets x = new FogSheets();
        Due.is("7: least", Tapes.read(x, "e6,0,0,0;g0;s0,1,1;"), 1);
        Due.is("7: most", Tapes.read(x, "e16,15,15,15;g0;g1;g2;g3;g4;g0;s15,5,9;b15,5,9;w15,5,9;h15,5,9;o15,5,9;s0,1,1;"), 6);
        Due.are("7: law", new long[] {x.stand(0), x.stand(1), x.stand(2), x.stand(3)}, 16, 15, 15, 15);
        Due.is("7: winds", x.count(2), 6);
        Due.is("7: two figures", Tapes.read(x, "e07,01,02,03;g04;h00,05,09;"), 1);
        Due.are("7: their law", new long[] {x.stand(0), x.stand(1), x.stand(2), x.stand(3)}, 7, 1, 2, 3);
        Due.are("7: their sheet", new long[] {x.sheet(0, 0), x.sheet(0, 1), x.sheet(0, 2), x.stand(7)}, 0, 5, 9, 4);
        Due.is("7: empty then", x.count(7), 0);
    }

    private static void replaces() {
        FogSheets x = Tapes.estuary("e6,0,0,15;g2;s0,1,5;b0,1,5;");
        x.hours(3);
        x.step(1);
        Due.is("7: ahead of it", x.count(4), 2);
        Tapes.feed(x, "e6,0,0,15;g2;s6,1,5;");
        Due.is("7: a fault", x.estuary(), -1000114);
        Due.is("7: empty behind a fault, too", x.count(7), 0);
        Due.are("7: all stays", new long[] {x.count(1), x.count(3), x.count(4), x.count(6)}, 2, 3, 2, 4);
        Due.is("7: another", Tapes.read(x, "e7,0,0,15;g2;g3;s0,1,5;b1,1,5;w2,1,5;"), 3);
        Due.are("7: it is new", new long[] {x.count(1), x.count(2), x.count(3), x.count(4), x.count(5), x.count(6)},
            3, 2, 0, 0, 3, 0);
        Due.is("7: no number is left", x.sheet(0, 3), 0);
        Due.is("7: nothing to undo", x.undo(), STATE);
    }

    /** A text on a new object, the place of its fault, its number. */
    private static void fault(String text, int place, int number) {
        FogSheets x = new FogSheets();
        Due.is("7: " + text, Tapes.read(x, text), -1000100 - place);
        Due.is("8: " + text, x.fault(), number);
        Due.is("7: none stands: " + text, x.stand(0), STATE);
    }

    private static void faults() {
        fault("", 0, 1);
        fault("s", 0, 1);
        fault("6", 0, 1);
        fault("E6", 0, 1);
        fault(" e6", 0, 1);
        fault("e", 1, 1);
        fault("e6", 2, 1);
        fault("ee", 1, 1);
        fault("e,", 1, 1);
        fault("e5,0,0,0;", 1, 2);
        fault("e17,0,0,0;", 1, 2);
        fault("e006,0,0,0;", 1, 1);
        fault("e123", 1, 1);
        fault("e1234567", 1, 1);
        fault("e6;", 2, 1);
        fault("e6 ,", 2, 1);
        fault("e6,6,0,0;", 3, 2);
        fault("e6,0,6,0;", 5, 2);
        fault("e16,16,0,0;", 4, 2);
        fault("e16,15,16,0;", 7, 2);
        fault("e6,0,0,16;", 7, 2);
        fault("e6,0,0,0,", 8, 1);
        fault("e6,0,0,-1;", 7, 1);
        fault("e6,0,0,0;", 9, 1);
        fault("e6,0,0,0;s0,1,1;", 9, 1);
        fault("e6,0,0,0;e6,0,0,0;", 9, 1);
        fault("e6,0,0,0;g", 10, 1);
        fault("e6,0,0,0;g5;", 10, 2);
        fault("e6,0,0,0;g10;", 10, 2);
        fault("e6,0,0,0;g0,", 11, 1);
        fault("e6,0,0,0;g0;", 12, 1);
        fault("e6,0,0,0;g0;x", 12, 1);
        fault("e6,0,0,0;g0;3", 12, 1);
        fault("e6,0,0,0;g0;345", 12, 1);
    }

    private static void faultsOfSheets() {
        String ahead = "e6,0,0,0;g0;";
        fault(ahead + "s", 13, 1);
        fault(ahead + "s6,1,1;", 13, 2);
        fault(ahead + "s0;", 14, 1);
        fault(ahead + "s0,0,1;", 15, 2);
        fault(ahead + "s0,6,1;", 15, 2);
        fault(ahead + "s0,1,0;", 17, 2);
        fault(ahead + "s0,1,10;", 17, 2);
        fault(ahead + "s0,1,100;", 17, 1);
        fault(ahead + "s0,1,1", 18, 1);
        fault(ahead + "s0,1,1,", 18, 1);
        fault(ahead + "s0,1,1;;", 19, 1);
        fault(ahead + "s0,1,1;g0;", 19, 1);
        fault(ahead + "s0,1,1;a", 19, 1);
        fault(ahead + "s0,1,1;\n", 19, 1);
        fault(ahead + "s0,1,1;" + (char) 233, 19, 1);
        fault(ahead + "s0,1,1;b9,1,1;", 20, 2);
    }

    private static void roomIsOut() {
        String law = "e6,0,0,0;";
        String winds = "g0;g0;g0;g0;g0;g0;";
        String sheets = "s0,1,1;b0,1,1;w0,1,1;h0,1,1;o0,1,1;s0,1,1;";
        fault(law + winds + "g0;" + sheets, 27, 3);
        fault(law + winds + "g9", 27, 3);
        fault(law + "g0;" + sheets + "o0,1,1;", 54, 3);
        fault(law + "g0;" + sheets + "b", 54, 3);
        fault(law + "g0;" + sheets + "g", 54, 1);
        fault(law + winds + sheets + "1", 69, 1);
        FogSheets x = new FogSheets();
        Due.is("7: six of each", Tapes.read(x, law + winds + sheets), 6);
    }

    private static void promise8() {
        FogSheets x = new FogSheets();
        Due.is("8: before one", x.fault(), 0);
        Tapes.read(x, "e6,0,0,0;g2;s0,1,1;");
        Due.is("8: none yet", x.fault(), 0);
        Tapes.read(x, "e5");
        Due.is("8: the first", x.fault(), 2);
        Tapes.read(x, "e");
        Due.is("8: the latest", x.fault(), 1);
        Tapes.read(x, "e6,0,0,0;g2;s0,1,1;");
        Due.is("8: it stays", x.fault(), 1);
    }
}
