/** Makes objects with a text on the tape. */
final class Tapes {
    private Tapes() {
    }

    static void feed(FogSheets x, String text) {
        for (int i = 0; i < text.length(); i++) {
            x.feed(text.charAt(i));
        }
    }

    static int read(FogSheets x, String text) {
        feed(x, text);
        return x.estuary();
    }

    static FogSheets estuary(String text) {
        FogSheets x = new FogSheets();
        int sheets = read(x, text);
        if (sheets < 0) {
            throw new IllegalStateException("the test's own text has a fault: " + text + " " + sheets);
        }
        return x;
    }

    /** An estuary behind some hours. */
    static FogSheets estuary(String text, int hours) {
        FogSheets x = estuary(text);
        for (int left = hours; left > 0; left -= 24) {
            x.hours(Math.min(left, 24));
        }
        return x;
    }
}
