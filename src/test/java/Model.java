import java.math.BigInteger;
import java.util.ArrayDeque;
import java.util.ArrayList;
import java.util.Deque;
import java.util.List;
import java.util.function.ToIntFunction;

/** The document told a second time, as plainly and as wastefully as it reads, to compare FogSheets with. */
final class Model {
    private static final int NONE = -1000000, BAD = -1000001, STATE = -1000002, FULL = -1000003;

    /** An answer that refuses, or finds. */
    private static final class Refused extends RuntimeException {
        private static final long serialVersionUID = 1;
        final int answer;

        Refused(int answer) {
            super("", null, false, false);
            this.answer = answer;
        }
    }

    private static final class Sheet {
        char sort;
        int at, wide, thick, number;
        boolean in = true;

        Sheet twin() {
            Sheet s = new Sheet();
            s.sort = sort;
            s.at = at;
            s.wide = wide;
            s.thick = thick;
            s.number = number;
            s.in = in;
            return s;
        }

        boolean on(World w, int cell) {
            return in && cell >= 0 && cell < w.cells && cell >= at && cell <= at + wide - 1;
        }

        int bits(World w) {
            int bits = 0;
            for (int c = 0; c < w.cells; c++) {
                if (on(w, c)) {
                    bits |= 1 << c;
                }
            }
            return bits;
        }
    }

    private static final class World {
        int cells, point, walker, awake, hour;
        List<Integer> winds = new ArrayList<>();
        List<Sheet> sheets = new ArrayList<>();

        World twin() {
            World w = new World();
            w.cells = cells;
            w.point = point;
            w.walker = walker;
            w.awake = awake;
            w.hour = hour;
            w.winds.addAll(winds);
            for (Sheet s : sheets) {
                w.sheets.add(s.twin());
            }
            return w;
        }

        World after(int n) {
            World w = twin();
            for (int i = 0; i < n; i++) {
                w.pass();
            }
            return w;
        }

        void pass() {
            int up = winds.get(hour % winds.size()) - 2;
            boolean odd = hour % 2 == 1;
            for (Sheet s : sheets) {
                if (!s.in) {
                    continue;
                }
                Sheet t = s.twin();
                if (s.sort == 's') {
                    t.at += up;
                    t.thick -= odd ? 1 : 0;
                } else if (s.sort == 'b') {
                    t.at += up == 2 ? 1 : up == -2 ? -1 : 0;
                    t.thick -= odd ? 1 : 0;
                } else if (s.sort == 'w') {
                    t.at += up + up;
                    t.thick -= odd ? 2 : 1;
                } else if (s.sort == 'h') {
                    t.at -= 1;
                    t.thick -= up == 0 ? 0 : 1;
                } else {
                    t.thick = up == 0 ? (t.thick == 9 ? 9 : t.thick + 1) : t.thick - 1;
                }
                if (t.bits(this) == 0 || t.thick <= 0) {
                    s.in = false;
                } else {
                    s.at = t.at;
                    s.thick = t.thick;
                }
            }
            if ((awake & 1 << hour % 4) != 0) {
                for (Sheet s : sheets) {
                    if (s.on(this, point) && s.number == 0) {
                        s.number = numbered() + 1;
                    }
                }
            }
            hour++;
        }

        int numbered() {
            return (int) sheets.stream().filter(s -> s.number > 0).count();
        }

        int over(int cell) {
            return sheets.stream().filter(s -> s.on(this, cell)).mapToInt(s -> s.thick).sum();
        }

        int bits(java.util.function.Predicate<Sheet> which) {
            int bits = 0;
            for (int i = 0; i < sheets.size(); i++) {
                if (which.test(sheets.get(i))) {
                    bits |= 1 << i;
                }
            }
            return bits;
        }
    }

    private final int[][] rows = new int[8][];
    private final int[] lanes = new int[8];
    private StringBuilder tape = new StringBuilder();
    private World now;
    private final Deque<World> acts = new ArrayDeque<>();
    private final World[] images = new World[2];
    private final List<Integer> trace = new ArrayList<>();
    private int fault, status;

    /** What the call with this name is to answer. */
    long call(String name, int... a) {
        boolean withRow = List.of("row", "set", "copy", "drop", "who", "gusts", "as").contains(name);
        try {
            long answer = done(name, a);
            if (withRow) {
                status = 0;
            }
            return answer;
        } catch (Refused r) {
            if (withRow && r.answer < -1000010) {
                status = -1000010 - r.answer;
            }
            return r.answer;
        }
    }

    private static void bad(boolean is) {
        refuse(is, BAD);
    }

    private static void refuse(boolean is, int answer) {
        if (is) {
            throw new Refused(answer);
        }
    }

    private static void finding(boolean is, int number) {
        refuse(is, -1000010 - number);
    }

    private Sheet theSheet(int sheet) {
        bad(now == null || sheet < 0 || sheet >= now.sheets.size());
        return now.sheets.get(sheet);
    }

    private void theCell(int cell) {
        bad(now == null || cell < 0 || cell >= now.cells);
    }

    private void theWind(int wind) {
        bad(now == null || wind < 0 || wind >= now.winds.size());
    }

    private static void range(int v, int least, int most) {
        bad(v < least || v > most);
    }

    private void told() {
        refuse(now == null, STATE);
    }

    private void act() {
        acts.addLast(now.twin());
        if (acts.size() > 24) {
            acts.removeFirst();
        }
    }

    private long done(String name, int[] a) {
        switch (name) {
            case "row":
            case "set":
            case "copy":
            case "drop":
                return rowCall(name, a);
            case "feed":
                range(a[0], 0, 255);
                refuse(tape.length() == 120, FULL);
                tape.append((char) a[0]);
                return tape.length();
            case "estuary":
                return read();
            case "fault":
                return fault;
            case "undo":
                refuse(acts.isEmpty(), STATE);
                now = acts.removeLast();
                return acts.size();
            case "hours":
            case "step":
            case "wind":
            case "wake":
            case "let":
                return actCall(name, a);
            case "sheet":
            case "cell":
            case "stand":
                return lookCall(name, a);
            case "image":
                range(a[0], 0, 1);
                told();
                images[a[0]] = now.twin();
                return 1;
            case "restore":
                range(a[0], 0, 1);
                refuse(images[a[0]] == null, STATE);
                now = images[a[0]].twin();
                acts.clear();
                return 1;
            case "kind":
            case "as":
            case "ask":
            case "trace":
            case "count":
            case "status":
                return askCall(name, a);
            default:
                return foretold(name, a);
        }
    }

    private long rowCall(String name, int[] a) {
        range(a[0], 0, 7);
        if (name.equals("row")) {
            range(a[1], 0, 2);
            bad(a[2] > 40);
            finding(a[2] < 0, 4);
            rows[a[0]] = new int[a[2]];
            lanes[a[0]] = a[1];
            return a[2];
        }
        if (name.equals("set")) {
            finding(rows[a[0]] == null, 1);
            finding(a[1] < 0 || a[1] >= rows[a[0]].length, 2);
            int shift = new int[] {24, 16, 0}[lanes[a[0]]];
            return rows[a[0]][a[1]] = a[2] << shift >> shift;
        }
        if (name.equals("drop")) {
            finding(rows[a[0]] == null, 1);
            int n = rows[a[0]].length;
            rows[a[0]] = null;
            return n;
        }
        range(a[2], 0, 7);
        int[] from = rows[a[0]], to = rows[a[2]];
        finding(from == null || to == null, 1);
        finding(lanes[a[0]] != lanes[a[2]], 5);
        finding(a[1] < 0 || a[3] < 0 || a[4] < 0 || (long) a[1] + a[4] > from.length
            || (long) a[3] + a[4] > to.length, 2);
        int[] were = from.clone();
        for (int k = 0; k < a[4]; k++) {
            to[a[3] + k] = were[a[1] + k];
        }
        return a[4];
    }

    /** A text, its tokens with their places, and the state of the reading as what may come next. */
    private long read() {
        String text = tape.toString();
        tape = new StringBuilder();
        World w = new World();
        List<Integer> numbers = new ArrayList<>();
        String part = "law";
        int slot = 0;
        int place = 0;
        while (true) {
            String token = tokenAt(text, place);
            int wrong = 0;
            if (slot == 0 && token.isEmpty() && !w.sheets.isEmpty()) {
                break;
            }
            if (slot == 0) {
                String may = part.equals("law") ? "e" : part.equals("wind")
                    ? (w.winds.isEmpty() ? "g" : "gsbwho") : "sbwho";
                if (token.length() != 1 || may.indexOf(token.charAt(0)) < 0) {
                    wrong = 1;
                } else if (token.equals("g") && w.winds.size() == 6
                    || "sbwho".contains(token) && w.sheets.size() == 6) {
                    wrong = 3;
                } else {
                    part = token.equals("e") ? "law" : token.equals("g") ? "wind" : token;
                    numbers.clear();
                }
            } else if (slot % 2 == 1) {
                if (!token.matches("[0-9]{1,2}")) {
                    wrong = 1;
                } else {
                    int[] ends = endsOf(part, slot / 2, w, numbers);
                    int v = Integer.parseInt(token);
                    wrong = v < ends[0] || v > ends[1] ? 2 : 0;
                    numbers.add(v);
                }
            } else {
                boolean last = slot / 2 == (part.equals("law") ? 4 : part.equals("wind") ? 1 : 3);
                if (!token.equals(last ? ";" : ",")) {
                    wrong = 1;
                } else if (last) {
                    add(w, part, numbers);
                    part = part.equals("law") ? "wind" : part.equals("wind") ? "wind" : "sheet";
                    slot = -1;
                }
            }
            if (wrong != 0) {
                fault = wrong;
                return -1000100 - place;
            }
            slot++;
            place += token.length();
        }
        now = w;
        acts.clear();
        return w.sheets.size();
    }

    private static String tokenAt(String text, int place) {
        if (place == text.length()) {
            return "";
        }
        int end = place;
        while (end < text.length() && "0123456789".indexOf(text.charAt(end)) >= 0) {
            end++;
        }
        return text.substring(place, end == place ? place + 1 : end);
    }

    private static int[] endsOf(String part, int which, World w, List<Integer> numbers) {
        if (part.equals("law")) {
            int cells = numbers.isEmpty() ? 0 : numbers.get(0);
            return which == 0 ? new int[] {6, 16} : which == 3 ? new int[] {0, 15} : new int[] {0, cells - 1};
        }
        if (part.equals("wind")) {
            return new int[] {0, 4};
        }
        return which == 0 ? new int[] {0, w.cells - 1} : which == 1 ? new int[] {1, 5} : new int[] {1, 9};
    }

    private static void add(World w, String part, List<Integer> numbers) {
        if (part.equals("law")) {
            w.cells = numbers.get(0);
            w.point = numbers.get(1);
            w.walker = numbers.get(2);
            w.awake = numbers.get(3);
        } else if (part.equals("wind")) {
            w.winds.add(numbers.get(0));
        } else {
            Sheet s = new Sheet();
            s.sort = part.charAt(0);
            s.at = numbers.get(0);
            s.wide = numbers.get(1);
            s.thick = numbers.get(2);
            w.sheets.add(s);
        }
    }

    private long actCall(String name, int[] a) {
        int was;
        switch (name) {
            case "hours":
                told();
                range(a[0], 1, 24);
                refuse(now.hour + a[0] > 999, FULL);
                for (int i = 0; i < a[0]; i++) {
                    act();
                    now.pass();
                }
                return now.numbered();
            case "step":
                told();
                range(a[0], 0, 1);
                int to = now.walker + (a[0] == 0 ? -1 : 1);
                refuse(to < 0 || to >= now.cells, STATE);
                act();
                now.walker = to;
                return to;
            case "wind":
                theWind(a[0]);
                range(a[1], 0, 4);
                act();
                return now.winds.set(a[0], a[1]);
            case "wake":
                told();
                range(a[0], 0, 15);
                was = now.awake;
                act();
                now.awake = a[0];
                return was;
            default:
                theSheet(a[0]);
                theCell(a[1]);
                range(a[2], 1, 9);
                refuse(now.sheets.get(a[0]).in, STATE);
                act();
                letIn(now.sheets.get(a[0]), a[1], a[2]);
                return now.bits(s -> s.in);
        }
    }

    private static void letIn(Sheet s, int cell, int thick) {
        s.in = true;
        s.at = cell;
        s.thick = thick;
    }

    private long lookCall(String name, int[] a) {
        if (name.equals("sheet")) {
            Sheet s = theSheet(a[0]);
            range(a[1], 0, 4);
            return new int[] {s.in ? s.at : NONE, s.wide, s.in ? s.thick : 0, s.number, s.bits(now)}[a[1]];
        }
        if (name.equals("cell")) {
            theCell(a[0]);
            range(a[1], 0, 2);
            return new int[] {now.over(a[0]), now.bits(s -> s.on(now, a[0])), now.walker == a[0] ? 1 : 0}[a[1]];
        }
        told();
        range(a[0], 0, 7);
        return new int[] {now.cells, now.point, now.walker, now.awake, now.bits(s -> s.in),
            now.bits(s -> s.number > 0), now.numbered() + 1, now.winds.get(now.hour % now.winds.size())}[a[0]];
    }

    private long foretold(String name, int[] a) {
        switch (name) {
            case "ahead": {
                theSheet(a[0]);
                range(a[1], 0, 60);
                range(a[2], 0, 2);
                Sheet s = now.after(a[1]).sheets.get(a[0]);
                return new int[] {s.in ? s.at : NONE, s.in ? s.thick : 0, s.number}[a[2]];
            }
            case "over":
                theCell(a[0]);
                range(a[1], 0, 60);
                return now.after(a[1]).over(a[0]);
            case "when":
                theSheet(a[0]);
                range(a[1], 0, 1);
                return first(60, n -> {
                    Sheet s = now.after(n).sheets.get(a[0]);
                    return a[1] == 0 ? (s.in ? NONE : n) : s.number == 0 ? NONE : n;
                });
            case "overlap":
                told();
                range(a[0], 0, 1);
                return first(60, n -> {
                    int pair = pair(now.after(n));
                    return pair == NONE || a[0] == 1 ? pair : n;
                });
            case "meet":
                theSheet(a[0]);
                return first(20, n -> {
                    World w = now.after(n);
                    for (int c = now.walker - n; c <= now.walker + n; c++) {
                        if (w.sheets.get(a[0]).on(w, c)) {
                            return n;
                        }
                    }
                    return NONE;
                });
            case "walk":
                return walk(a[0], a[1]);
            case "site":
                return site(a[0], a[1]);
            case "waking":
                return waking(a[0], a[1]);
            case "meant":
                return meant(a[0], a[1]);
            case "share":
                return share(a[0], a[1]);
            case "byTurns":
                told();
                range(a[0], 0, 4);
                range(a[1], 1, 20);
                return turns(now.twin(), a[0], true, a[1]);
            case "who":
                return who(a);
            case "gusts":
                return gusts(a);
            case "lift":
                return lift(a[0], a[1], a[2], a[3]);
            case "drawn":
                return drawn(a[0], a[1], a[2]);
            default:
                throw new IllegalArgumentException(name);
        }
    }

    private static int first(int most, ToIntFunction<Integer> of) {
        for (int n = 0; n <= most; n++) {
            int answer = of.applyAsInt(n);
            if (answer != NONE) {
                return answer;
            }
        }
        return NONE;
    }

    private static int pair(World w) {
        for (int a = 0; a < w.sheets.size(); a++) {
            for (int b = a + 1; b < w.sheets.size(); b++) {
                if ((w.sheets.get(a).bits(w) & w.sheets.get(b).bits(w)) != 0) {
                    return 10 * a + b;
                }
            }
        }
        return NONE;
    }

    private long walk(int n, int k) {
        told();
        range(n, 1, 6);
        bad(k < -1);
        refuse(k >= n, NONE);
        World[] then = new World[n];
        for (int h = 0; h < n; h++) {
            then[h] = now.after(h + 1);
        }
        int best = Integer.MAX_VALUE;
        int[] bestCells = null;
        int ways = (int) Math.pow(3, n);
        rows:
        for (int way = 0; way < ways; way++) {
            int[] cells = new int[n];
            int cell = now.walker;
            int all = 0;
            int place = ways;
            for (int h = 0; h < n; h++) {
                place /= 3;
                cell += way / place % 3 - 1;
                if (cell < 0 || cell >= now.cells) {
                    continue rows;
                }
                cells[h] = cell;
                all += then[h].over(cell);
            }
            if (all < best) {
                best = all;
                bestCells = cells;
            }
        }
        return k == -1 ? best : bestCells[k];
    }

    private long site(int n, int what) {
        told();
        range(n, 1, 30);
        range(what, 0, 1);
        int best = -1;
        int most = -1;
        for (int c = 0; c < now.cells; c++) {
            World w = now.twin();
            w.point = c;
            int numbered = w.after(n).numbered();
            if (numbered > most) {
                most = numbered;
                best = c;
            }
        }
        return what == 0 ? best : most;
    }

    private long waking(int n, int what) {
        told();
        range(n, 1, 30);
        range(what, 0, 1);
        int[] numbered = new int[16];
        for (int v = 0; v < 16; v++) {
            World w = now.twin();
            w.awake = v;
            numbered[v] = w.after(n).numbered();
        }
        for (int bits = 0; bits <= 4; bits++) {
            for (int v = 0; v < 16; v++) {
                if (Integer.bitCount(v) == bits && numbered[v] == numbered[15]) {
                    return what == 0 ? v : bits;
                }
            }
        }
        throw new IllegalStateException("15 itself is as good as 15");
    }

    private long meant(int v, int what) {
        told();
        range(v, 0, 54);
        range(what, 0, 2);
        List<Integer> sets = new ArrayList<>();
        int in = now.bits(s -> s.in);
        for (int set = 0; set < 64; set++) {
            int sum = 0;
            for (int i = 0; i < now.sheets.size(); i++) {
                sum += (set & 1 << i) != 0 ? now.sheets.get(i).thick : 0;
            }
            if ((set | in) == in && sum == v) {
                sets.add(set);
            }
        }
        int all = sets.isEmpty() ? 0 : sets.stream().reduce(63, (x, y) -> x & y);
        return new int[] {sets.size(), all, sets.stream().reduce(0, (x, y) -> x | y)}[what];
    }

    private long share(int sheet, int n) {
        theSheet(sheet);
        range(n, 0, 999);
        List<Sheet> in = new ArrayList<>();
        for (Sheet s : now.sheets) {
            if (s.in) {
                in.add(s);
            }
        }
        int all = in.stream().mapToInt(s -> s.wide * s.thick).sum();
        int[] gets = new int[in.size()];
        int left = n;
        for (int i = 0; i < gets.length; i++) {
            gets[i] = n * in.get(i).wide * in.get(i).thick / all;
            left -= gets[i];
        }
        for (int i = 0; i < gets.length && left > 0; i++, left--) {
            gets[i]++;
        }
        int at = in.indexOf(now.sheets.get(sheet));
        return at < 0 ? 0 : gets[at];
    }

    private static int turns(World w, int left, boolean walker, int m) {
        if (left == 0) {
            return w.after(m).over(w.walker);
        }
        int best = walker ? Integer.MAX_VALUE : Integer.MIN_VALUE;
        for (int way = walker ? -1 : 0; way <= 1; way++) {
            World next = w.twin();
            if (walker) {
                next.walker += way;
                if (next.walker < 0 || next.walker >= w.cells) {
                    continue;
                }
                best = Math.min(best, turns(next, left - 1, false, m));
            } else {
                int wind = w.hour % w.winds.size();
                next.winds.set(wind, way == 0 ? w.winds.get(wind) : 4 - w.winds.get(wind));
                best = Math.max(best, turns(next, left - 1, true, m));
            }
        }
        return best;
    }

    private int[] toldItems(int row, int i, int n) {
        finding(rows[row] == null, 1);
        finding(i < 0 || (long) i + n > rows[row].length, 2);
        return java.util.Arrays.copyOfRange(rows[row], i, i + n);
    }

    private static boolean fits(World w, int[] told) {
        for (int h = 0; h < told.length; h++) {
            if (w.after(h + 1).over(w.walker) != told[h]) {
                return false;
            }
        }
        return true;
    }

    private long who(int[] a) {
        Sheet s = theSheet(a[0]);
        range(a[1], 0, 2);
        range(a[2], 0, 7);
        range(a[4], 1, 12);
        refuse(!s.in, STATE);
        int[] told = toldItems(a[2], a[3], a[4]);
        int bits = 0;
        for (int v = 0; v < 16; v++) {
            World w = now.twin();
            Sheet t = w.sheets.get(a[0]);
            boolean can;
            if (a[1] == 0) {
                can = v >= 1 && v <= 5;
                t.sort = can ? "sbwho".charAt(v - 1) : 's';
            } else if (a[1] == 1) {
                can = v < w.cells;
                t.at = v;
            } else {
                can = v >= 1 && v <= 9;
                t.thick = v;
            }
            if (can && fits(w, told)) {
                bits |= 1 << v;
            }
        }
        return bits;
    }

    private long gusts(int[] a) {
        theWind(a[0]);
        range(a[1], 0, 7);
        range(a[3], 1, 12);
        int[] told = toldItems(a[1], a[2], a[3]);
        int bits = 0;
        for (int v = 0; v <= 4; v++) {
            World w = now.twin();
            w.winds.set(a[0], v);
            bits |= fits(w, told) ? 1 << v : 0;
        }
        return bits;
    }

    private long lift(int cell, int n, int p, int what) {
        theCell(cell);
        range(n, 0, 60);
        range(p, 0, 10);
        range(what, 0, 1);
        int in = now.bits(s -> s.in);
        BigInteger above = BigInteger.ZERO;
        BigInteger below = BigInteger.TEN.pow(6);
        for (int gone = 0; gone < 64; gone++) {
            if ((gone & ~in) != 0) {
                continue;
            }
            World w = now.twin();
            for (int i = 0; i < w.sheets.size(); i++) {
                w.sheets.get(i).in &= (gone & 1 << i) == 0;
            }
            if (w.after(n).over(cell) == 0) {
                int lifted = Integer.bitCount(gone);
                int stayed = Integer.bitCount(in) - lifted;
                above = above.add(BigInteger.valueOf(p).pow(lifted).multiply(BigInteger.valueOf(10 - p).pow(stayed))
                    .multiply(BigInteger.TEN.pow(6 - lifted - stayed)));
            }
        }
        BigInteger common = above.gcd(below);
        return (what == 0 ? above : below).divide(common).longValueExact();
    }

    private long drawn(int n, int seed, int what) {
        told();
        range(n, 0, 60);
        range(seed, 1, 999999);
        range(what, 0, 1);
        World w = now.twin();
        BigInteger x = BigInteger.valueOf(seed);
        int over = 0;
        for (int i = 0; i < n; i++) {
            x = x.multiply(BigInteger.valueOf(16807)).mod(BigInteger.valueOf(2147483647));
            int v = x.intValueExact();
            if (v % 3 == 0) {
                w.winds.set(v % w.winds.size(), v % 5);
            }
            Sheet s = w.sheets.get(v % w.sheets.size());
            if (!s.in) {
                letIn(s, v % w.cells, v % 9 + 1);
            }
            w.pass();
            over += w.over(w.point);
        }
        return what == 0 ? w.numbered() : over;
    }

    /** The KINDS as classes of Java's own, so that Java finds the BODY that begins. */
    private interface Fog {
        Asked asked();

        default int size() {
            asked().trace.add(10);
            return asked().sheet.wide;
        }

        default int mark() {
            asked().trace.add(20);
            return asked().one;
        }
    }

    private record Asked(Sheet sheet, int one, List<Integer> trace) {
    }

    private static class Plain implements Fog {
        private final Asked asked;

        Plain(Asked asked) {
            this.asked = asked;
        }

        public Asked asked() {
            return asked;
        }

        public int size() {
            asked.trace.add(11);
            return Fog.super.size() + mark();
        }

        public int mark() {
            asked.trace.add(21);
            return Fog.super.mark() + asked.sheet.thick;
        }
    }

    private static final class Bank extends Plain {
        Bank(Asked asked) {
            super(asked);
        }

        public int size() {
            asked().trace.add(12);
            return -super.size();
        }

        public int mark() {
            asked().trace.add(24);
            return super.mark() * 2;
        }
    }

    private static final class Wisp extends Plain {
        Wisp(Asked asked) {
            super(asked);
        }

        public int mark() {
            asked().trace.add(22);
            return super.mark() - 1000;
        }
    }

    private static class Haar implements Fog {
        private final Asked asked;

        Haar(Asked asked) {
            this.asked = asked;
        }

        public Asked asked() {
            return asked;
        }

        public int size() {
            asked.trace.add(13);
            return Fog.super.size() - 100;
        }

        public int mark() {
            asked.trace.add(23);
            return Fog.super.mark() - size();
        }
    }

    private static final class Odd extends Haar {
        Odd(Asked asked) {
            super(asked);
        }

        public int size() {
            asked().trace.add(14);
            return super.size() * 2;
        }
    }

    private Fog fog(int one) {
        Asked asked = new Asked(theSheet(one), one, trace);
        switch (asked.sheet.sort) {
            case 's':
                return new Plain(asked);
            case 'b':
                return new Bank(asked);
            case 'w':
                return new Wisp(asked);
            case 'h':
                return new Haar(asked);
            default:
                return new Odd(asked);
        }
    }

    private long askCall(String name, int[] a) {
        switch (name) {
            case "kind":
                return "sbwho".indexOf(theSheet(a[0]).sort) + 1;
            case "as": {
                Fog fog = fog(a[0]);
                range(a[1], 0, 5);
                Class<?> kind = List.<Class<?>>of(Fog.class, Plain.class, Bank.class, Wisp.class, Haar.class,
                    Odd.class).get(a[1]);
                finding(!kind.isInstance(fog), 3);
                return a[0];
            }
            case "ask": {
                Fog fog = fog(a[0]);
                range(a[1], 0, 1);
                trace.clear();
                return a[1] == 0 ? fog.size() : fog.mark();
            }
            case "trace":
                return a[0] < 0 || a[0] >= Math.min(16, trace.size()) ? NONE : trace.get(a[0]);
            case "status":
                return status;
            default:
                range(a[0], 0, 7);
                return counts(a[0]);
        }
    }

    private long counts(int what) {
        if (what == 0) {
            return java.util.Arrays.stream(rows).filter(r -> r != null).count();
        }
        if (what == 6 || what == 7) {
            return what == 6 ? acts.size() : tape.length();
        }
        if (now == null) {
            return 0;
        }
        return new int[] {0, now.sheets.size(), now.winds.size(), now.hour, now.numbered(),
            Integer.bitCount(now.bits(s -> s.in))}[what];
    }
}
