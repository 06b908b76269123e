/** Reads the ITEMS of ROWS, which no call tells by itself: by which THICKS and STARTS of a SHEET they are so. */
final class Items {
    private static final int STARTS_BESIDE = 0b111110;

    private Items() {
    }

    /** One of the odd over the walker in a calm: behind an hour it is 1 thicker there, 9 at most. */
    static FogSheets estuary() {
        return Tapes.estuary("e6,0,0,0;g2;o0,1,9;");
    }

    static void put(FogSheets x, int row, int... items) {
        for (int i = 0; i < items.length; i++) {
            x.set(row, i, items[i]);
        }
    }

    /** 0, or 2 to 9; -1: another; what is refused as it is. */
    static int at(FogSheets x, int row, int i) {
        int starts = x.who(0, 1, row, i, 1);
        if (starts < 0 || starts == STARTS_BESIDE) {
            return starts < 0 ? starts : 0;
        }
        int thicks = x.who(0, 2, row, i, 1);
        if (thicks == 0b1100000000) {
            return 9;
        }
        return Integer.bitCount(thicks) == 1 ? Integer.numberOfTrailingZeros(thicks) + 1 : -1;
    }

    static long[] of(FogSheets x, int row, int n) {
        long[] items = new long[n];
        for (int i = 0; i < n; i++) {
            items[i] = at(x, row, i);
        }
        return items;
    }
}
