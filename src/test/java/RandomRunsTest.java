import java.util.ArrayList;
import java.util.Arrays;
import java.util.List;
import java.util.Random;

/** Runs of calls by fixed seeds, each answer compared with the model's. */
public final class RandomRunsTest {
    private static final int RUNS = 400, CALLS = 500;
    private static final String[] NAMES = {"row", "set", "copy", "drop", "feed", "estuary", "fault", "undo", "hours",
        "step", "wind", "wake", "let", "sheet", "cell", "stand", "ahead", "over", "when", "overlap", "walk", "meet",
        "site", "waking", "meant", "share", "byTurns", "who", "gusts", "lift", "drawn", "image", "restore", "kind",
        "as", "ask", "trace", "count", "status"};

    private final Random random;
    private final FogSheets x = new FogSheets();
    private final Model model = new Model();
    private final List<String> said = new ArrayList<>();
    private int calls;

    private RandomRunsTest(long seed) {
        random = new Random(seed);
    }

    public static void main(String[] args) {
        for (int run = 0; run < RUNS && Due.allRight(); run++) {
            new RandomRunsTest(run).go();
        }
        Due.end();
    }

    private void go() {
        if (random.nextInt(8) != 0) {
            tell(soundText());
        }
        while (calls < CALLS && Due.allRight()) {
            int choice = random.nextInt(100);
            if (choice < 3) {
                tell(random.nextInt(3) == 0 ? brokenText() : soundText());
            } else if (choice < 8) {
                tellRow();
            } else if (choice < 12) {
                compare("hours", one(1, 4));
            } else {
                any(NAMES[random.nextInt(NAMES.length)]);
            }
        }
        if (!Due.allRight()) {
            said.forEach(System.out::println);
        }
    }

    private long compare(String name, int... a) {
        calls++;
        long got = call(name, a);
        long want = model.call(name, a);
        said.add(name + Arrays.toString(a) + " = " + got);
        Due.is(name + Arrays.toString(a), got, want);
        return got;
    }

    private void tell(String text) {
        for (int i = 0; i < text.length(); i++) {
            compare("feed", text.charAt(i));
        }
        compare("estuary");
        compare("fault");
    }

    private String soundText() {
        int cells = one(6, 16);
        StringBuilder text = new StringBuilder();
        text.append('e').append(cells).append(',').append(one(0, cells - 1)).append(',').append(one(0, cells - 1))
            .append(',').append(one(0, 15)).append(';');
        int winds = one(1, 6);
        for (int i = 0; i < winds; i++) {
            text.append('g').append(one(0, 4)).append(';');
        }
        int sheets = one(1, 6);
        for (int i = 0; i < sheets; i++) {
            text.append("sbwho".charAt(one(0, 4))).append(one(0, cells - 1)).append(',').append(one(1, 5))
                .append(',').append(one(random.nextInt(2) == 0 ? 1 : 7, 9)).append(';');
        }
        return text.toString();
    }

    private String brokenText() {
        StringBuilder text = new StringBuilder(soundText());
        String signs = "eg0123456789,;sbwhoxaz /:A{";
        for (int times = one(1, 2); times > 0; times--) {
            int at = random.nextInt(text.length());
            int how = random.nextInt(5);
            if (how == 0) {
                text.deleteCharAt(at);
            } else if (how == 1) {
                text.insert(at, signs.charAt(random.nextInt(signs.length())));
            } else if (how == 2) {
                text.setCharAt(at, signs.charAt(random.nextInt(signs.length())));
            } else if (how == 3) {
                text.append("s1,1,1;s2,2,2;");
            } else {
                text.insert(text.indexOf("g"), "g1;g2;g3;");
            }
        }
        return text.substring(0, random.nextInt(6) == 0 ? random.nextInt(text.length()) : Math.min(119, text.length()));
    }

    /** A ROW as it will be over the walker, now and then a little off, so that something fits it. */
    private void tellRow() {
        int row = one(0, 7);
        int n = one(1, 12);
        int walker = (int) compare("stand", 2);
        int first = one(0, 3);
        compare("row", row, one(0, 2), n + first);
        for (int h = 1; h <= n; h++) {
            int over = (int) compare("over", walker, h);
            compare("set", row, first + h - 1, random.nextInt(25) == 0 ? over + 1 : over);
        }
        for (int i = 0; i < 3; i++) {
            compare("who", one(0, 5), i, row, first, one(1, n));
        }
        compare("gusts", one(0, 2), row, first, one(1, n));
    }

    private int one(int least, int most) {
        return least + random.nextInt(most - least + 1);
    }

    /** Mostly as told, at times just beyond an end, seldom far off. */
    private int near(int least, int most) {
        int choice = random.nextInt(40);
        if (choice == 0) {
            return least - 1;
        }
        if (choice == 1) {
            return most + 1;
        }
        if (choice == 2) {
            return new int[] {Integer.MIN_VALUE, Integer.MAX_VALUE, -1, 1 << 20}[random.nextInt(4)];
        }
        return one(least, most);
    }

    private void any(String name) {
        switch (name) {
            case "row" -> compare(name, near(0, 7), near(0, 2), near(-1, 40));
            case "set" ->
                compare(name, near(0, 7), near(0, 12), random.nextInt(3) == 0 ? random.nextInt() : one(0, 20));
            case "copy" -> compare(name, near(0, 7), near(0, 6), near(0, 7), near(0, 6), near(0, 8));
            case "drop" -> compare(name, near(0, 7));
            case "feed" -> {
                if (random.nextInt(6) == 0) {
                    compare(name, near(0, 255));
                }
            }
            case "estuary" -> {
                if (random.nextInt(6) == 0) {
                    compare(name);
                }
            }
            case "fault", "undo", "status" -> compare(name);
            case "hours" -> compare(name, near(1, random.nextInt(6) == 0 ? 24 : 3));
            case "step", "overlap", "image" -> compare(name, near(0, 1));
            case "restore" -> {
                if (random.nextInt(3) == 0) {
                    compare(name, near(0, 1));
                }
            }
            case "wind" -> compare(name, near(0, 5), near(0, 4));
            case "wake" -> compare(name, near(0, 15));
            case "let" -> compare(name, near(0, 5), near(0, 15), near(1, 9));
            case "sheet" -> compare(name, near(0, 5), near(0, 4));
            case "cell" -> compare(name, near(0, 15), near(0, 2));
            case "stand", "count" -> compare(name, near(0, 7));
            default -> foretold(name);
        }
    }

    private void foretold(String name) {
        switch (name) {
            case "ahead" -> compare(name, near(0, 5), near(0, random.nextInt(3) == 0 ? 60 : 8), near(0, 2));
            case "over" -> compare(name, near(0, 15), near(0, random.nextInt(3) == 0 ? 60 : 8));
            case "when" -> compare(name, near(0, 5), near(0, 1));
            case "walk" -> compare(name, near(1, 6), near(-1, 5));
            case "meet", "kind" -> compare(name, near(0, 5));
            case "site", "waking" -> compare(name, near(1, 30), near(0, 1));
            case "meant" -> compare(name, near(0, random.nextInt(2) == 0 ? 54 : 20), near(0, 2));
            case "share" -> compare(name, near(0, 5), near(0, 999));
            case "byTurns" -> compare(name, near(0, 4), near(1, random.nextInt(3) == 0 ? 20 : 6));
            case "who" -> compare(name, near(0, 5), near(0, 2), near(0, 7), near(0, 3), near(1, 12));
            case "gusts" -> compare(name, near(0, 5), near(0, 7), near(0, 3), near(1, 12));
            case "lift" ->
                compare(name, near(0, 15), near(0, random.nextInt(3) == 0 ? 60 : 6), near(0, 10), near(0, 1));
            case "drawn" -> compare(name, near(0, 60), near(1, 999999), near(0, 1));
            case "as" -> compare(name, near(0, 5), near(0, 5));
            case "ask" -> {
                compare(name, near(0, 5), near(0, 1));
                for (int i = -1; i < 7; i++) {
                    compare("trace", i);
                }
            }
            case "trace" -> compare(name, near(0, 15));
            default -> throw new IllegalArgumentException(name);
        }
    }

    private long call(String name, int[] a) {
        return switch (name) {
            case "row" -> x.row(a[0], a[1], a[2]);
            case "set" -> x.set(a[0], a[1], a[2]);
            case "copy" -> x.copy(a[0], a[1], a[2], a[3], a[4]);
            case "drop" -> x.drop(a[0]);
            case "feed" -> x.feed(a[0]);
            case "estuary" -> x.estuary();
            case "fault" -> x.fault();
            case "undo" -> x.undo();
            case "hours" -> x.hours(a[0]);
            case "step" -> x.step(a[0]);
            case "wind" -> x.wind(a[0], a[1]);
            case "wake" -> x.wake(a[0]);
            case "let" -> x.let(a[0], a[1], a[2]);
            case "sheet" -> x.sheet(a[0], a[1]);
            case "cell" -> x.cell(a[0], a[1]);
            case "stand" -> x.stand(a[0]);
            case "ahead" -> x.ahead(a[0], a[1], a[2]);
            case "over" -> x.over(a[0], a[1]);
            case "when" -> x.when(a[0], a[1]);
            case "overlap" -> x.overlap(a[0]);
            case "walk" -> x.walk(a[0], a[1]);
            case "meet" -> x.meet(a[0]);
            case "site" -> x.site(a[0], a[1]);
            case "waking" -> x.waking(a[0], a[1]);
            case "meant" -> x.meant(a[0], a[1]);
            case "share" -> x.share(a[0], a[1]);
            case "byTurns" -> x.byTurns(a[0], a[1]);
            case "who" -> x.who(a[0], a[1], a[2], a[3], a[4]);
            case "gusts" -> x.gusts(a[0], a[1], a[2], a[3]);
            case "lift" -> x.lift(a[0], a[1], a[2], a[3]);
            case "drawn" -> x.drawn(a[0], a[1], a[2]);
            case "image" -> x.image(a[0]);
            case "restore" -> x.restore(a[0]);
            case "kind" -> x.kind(a[0]);
            case "as" -> x.as(a[0], a[1]);
            case "ask" -> x.ask(a[0], a[1]);
            case "trace" -> x.trace(a[0]);
            case "count" -> x.count(a[0]);
            case "status" -> x.status();
            default -> throw new IllegalArgumentException(name);
        };
    }
}
