import java.util.function.Consumer;
import java.util.stream.LongStream;

/** All that can be seen of an object, to tell that calls have changed nothing. */
final class Sight {
    private Sight() {
    }

    /** An object with acts, images, rows, a trace, a fault, a finding, a byte on the tape, and one that is GONE. */
    static FogSheets made() {
        FogSheets x = new FogSheets();
        Tapes.read(x, "e5");
        Tapes.read(x, "e6,2,2,13;g3;g2;s1,2,6;h4,1,5;w5,1,1;");
        x.hours(1);
        x.image(0);
        x.step(1);
        x.wind(1, 4);
        x.image(1);
        x.wake(5);
        x.ask(0, 0);
        x.feed('e');
        x.row(0, 0, 3);
        x.row(2, 1, 12);
        x.row(6, 2, 40);
        x.set(7, 0, 0);
        return x;
    }

    /** What calls that are refused, or that foretell, must not change. */
    static void changesNothing(Consumer<FogSheets> calls) {
        FogSheets x = made();
        calls.accept(x);
        FogSheets as = made();
        Due.is("status", x.status(), as.status());
        Due.are("what is seen", toTheEnd(x), toTheEnd(as));
    }

    /** Where something is found: nothing but the status. */
    static void changesOnlyStatus(Consumer<FogSheets> calls, int status) {
        FogSheets x = made();
        calls.accept(x);
        Due.is("status", x.status(), status);
        Due.are("what is seen", toTheEnd(x), toTheEnd(made()));
    }

    /** Of the ESTUARY as it stands, and what does not go with it. */
    static long[] of(FogSheets x) {
        LongStream.Builder seen = LongStream.builder();
        seen.add(x.fault());
        for (int i = 0; i < 6; i++) {
            seen.add(x.trace(i));
        }
        for (int what = 0; what < 8; what++) {
            seen.add(x.count(what)).add(x.stand(what));
        }
        for (int s = 0; s < x.count(1); s++) {
            for (int what = 0; what < 5; what++) {
                seen.add(x.sheet(s, what));
            }
            seen.add(x.kind(s)).add(x.ahead(s, 2, 0)).add(x.ahead(s, 2, 1));
        }
        return seen.build().toArray();
    }

    /** All of it; the object is used up by that. */
    private static long[] toTheEnd(FogSheets x) {
        LongStream seen = LongStream.of(of(x));
        while (x.undo() >= 0) {
            seen = LongStream.concat(seen, LongStream.of(of(x)));
        }
        for (int k = 0; k < 2; k++) {
            seen = LongStream.concat(seen, LongStream.of(x.restore(k)));
            seen = LongStream.concat(seen, LongStream.of(of(x)));
        }
        for (int wind = 0; wind < x.count(2); wind++) {
            seen = LongStream.concat(seen, LongStream.of(x.wind(wind, 0)));
        }
        for (int row = 0; row < 8; row++) {
            seen = LongStream.concat(seen, LongStream.of(x.set(row, 0, 65535), x.drop(row)));
        }
        return seen.toArray();
    }
}
