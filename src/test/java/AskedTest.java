/** Promises 35 to 39: kinds, asks, the trace, counts. */
public final class AskedTest {
    private static final int NONE = FogSheets.NONE, BAD = FogSheets.BAD, KIND = -1000013;
    private static final String ESTUARY = "e12,6,5,13;g3;s3,3,6;b5,2,9;w1,4,7;h9,3,5;o6,1,2;";

    public static void main(String[] args) {
        promise35();
        promise36();
        promise37and38();
        asksOfTheGone();
        refusals();
        promise39();
        Due.end();
    }

    private static void promise35() {
        FogSheets x = new FogSheets();
        Due.is("35: no estuary", x.kind(0), BAD);
        Tapes.read(x, ESTUARY);
        Due.are("35: each", new long[] {x.kind(0), x.kind(1), x.kind(2), x.kind(3), x.kind(4)}, 1, 2, 3, 4, 5);
        Due.is("35: -1", x.kind(-1), BAD);
        Due.is("35: 5", x.kind(5), BAD);
    }

    private static void promise36() {
        FogSheets x = new FogSheets();
        Due.is("36: no estuary", x.as(0, 0), BAD);
        Tapes.read(x, ESTUARY);
        int[] kinds = {0b000011, 0b000111, 0b001011, 0b010001, 0b110001};
        for (int one = 0; one < 5; one++) {
            for (int kind = 0; kind <= 5; kind++) {
                Due.is("36: as(" + one + ", " + kind + ")", x.as(one, kind), (kinds[one] >> kind & 1) != 0 ? one : KIND);
                Due.is("36: status", x.status(), (kinds[one] >> kind & 1) != 0 ? 0 : 3);
            }
        }
        Due.is("36: one -1", x.as(-1, 0), BAD);
        Due.is("36: one 5", x.as(5, 0), BAD);
        Due.is("36: kind -1", x.as(0, -1), BAD);
        Due.is("36: kind 6", x.as(0, 6), BAD);
    }

    private static void asks(FogSheets x, int one, int what, int answer, long... bodies) {
        String call = "ask(" + one + ", " + what + ")";
        Due.is("37: " + call, x.ask(one, what), answer);
        for (int i = 0; i < bodies.length; i++) {
            Due.is("38: trace " + i + " of " + call, x.trace(i), bodies[i]);
        }
        Due.is("38: no more of " + call, x.trace(bodies.length), NONE);
    }

    private static void promise37and38() {
        FogSheets x = Tapes.estuary(ESTUARY);
        Due.is("38: empty at first", x.trace(0), NONE);
        asks(x, 0, 0, 3 + 6, 11, 10, 21, 20);
        asks(x, 0, 1, 6, 21, 20);
        asks(x, 1, 0, -(2 + 20), 12, 11, 10, 24, 21, 20);
        asks(x, 1, 1, 2 * (1 + 9), 24, 21, 20);
        asks(x, 2, 0, 4 + 2 + 7 - 1000, 11, 10, 22, 21, 20);
        asks(x, 2, 1, 2 + 7 - 1000, 22, 21, 20);
        asks(x, 3, 0, 3 - 100, 13, 10);
        asks(x, 3, 1, 3 - (3 - 100), 23, 20, 13, 10);
        asks(x, 4, 0, 2 * (1 - 100), 14, 13, 10);
        asks(x, 4, 1, 4 - 2 * (1 - 100), 23, 20, 14, 13, 10);
    }

    private static void asksOfTheGone() {
        FogSheets x = Tapes.estuary("e6,0,0,15;g4;s0,1,9;s3,2,4;");
        x.hours(1);
        asks(x, 1, 1, 1 + 4, 21, 20);
        x.hours(1);
        Due.is("37: it is gone", x.sheet(1, 2), 0);
        asks(x, 1, 1, 1 + 4, 21, 20);
        asks(x, 1, 0, 2 + 1 + 4, 11, 10, 21, 20);
        x.let(1, 0, 9);
        asks(x, 1, 1, 1 + 9, 21, 20);
    }

    private static void refusals() {
        FogSheets x = new FogSheets();
        Due.is("37: no estuary", x.ask(0, 0), BAD);
        Tapes.read(x, ESTUARY);
        x.ask(0, 1);
        Due.is("37: one -1", x.ask(-1, 0), BAD);
        Due.is("37: one 5", x.ask(5, 0), BAD);
        Due.is("37: what -1", x.ask(0, -1), BAD);
        Due.is("37: what 2", x.ask(0, 2), BAD);
        Due.are("38: what is refused leaves the trace", new long[] {x.trace(0), x.trace(1), x.trace(2)}, 21, 20, NONE);
        Due.are("38: no such number", new long[] {x.trace(-1), x.trace(15), x.trace(16), x.trace(Integer.MAX_VALUE),
            x.trace(Integer.MIN_VALUE)}, NONE, NONE, NONE, NONE, NONE);
    }

    private static void promise39() {
        FogSheets x = Tapes.estuary("e6,0,0,15;g2;g4;o0,1,9;w3,2,1;");
        x.row(0, 0, 1);
        x.row(3, 0, 0);
        x.row(3, 1, 0);
        x.feed('e');
        x.feed('e');
        x.feed('e');
        x.hours(2);
        x.step(1);
        x.step(1);
        long[] counts = new long[8];
        for (int what = 0; what < 8; what++) {
            counts[what] = x.count(what);
        }
        Due.are("39: counts", counts, 2, 2, 2, 2, 1, 1, 4, 3);
        Due.is("39: -1", x.count(-1), BAD);
        Due.is("39: 8", x.count(8), BAD);
    }
}
