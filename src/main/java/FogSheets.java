import java.util.Arrays;

/** Numbered fog over an estuary: what is done there, and what is foretold of it. */
public final class FogSheets {
    public static final int NONE = -1000000, BAD = -1000001, STATE = -1000002, FULL = -1000003;

    private static final int FINDINGS = -1000010;
    private static final int NULL = 1, PLACE = 2, KIND = 3, SIZE = 4, STORE = 5;
    private static final int FAULTS = -1000100;
    private static final int ROWS = 8, LANES = 3, MOST_ITEMS = 40, MOST_BYTES = 120;
    private static final int MOST_CELLS = 16, MOST_SHEETS = 6, MOST_WINDS = 6, MOST_ACTS = 24;
    private static final int IMAGES = 2, LAST_HOUR = 999, FAR = 60, MOST_THICK = 9;
    private static final int FOG = 0, SHEET = 1, BANK = 2, WISP = 3, HAAR = 4, ODD = 5;
    private static final int KINDS = 6, CALM = 2, STRONGEST = 4;

    private final Row[] rows = new Row[ROWS];
    private final Reader reader = new Reader();
    private final Estuary now = new Estuary();
    private final Acts acts = new Acts();
    private final Estuary[] images = new Estuary[IMAGES];
    private final Foreteller foreteller = new Foreteller();
    private final Asks asks = new Asks();
    private int latestFault;
    private int latestFinding;

    public FogSheets() {
        for (int i = 0; i < ROWS; i++) {
            rows[i] = new Row();
        }
        for (int k = 0; k < IMAGES; k++) {
            images[k] = new Estuary();
        }
    }

    // ---- rows

    public int row(int row, int lane, int n) {
        if (!isRow(row) || !isWithin(lane, 0, LANES - 1) || n > MOST_ITEMS) {
            return BAD;
        }
        if (n < 0) {
            return found(SIZE);
        }
        rows[row].make(lane, n);
        return well(n);
    }

    public int set(int row, int i, int v) {
        if (!isRow(row)) {
            return BAD;
        }
        Row one = rows[row];
        if (one.missing) {
            return found(NULL);
        }
        if (!one.holds(i, 1)) {
            return found(PLACE);
        }
        return well(one.put(i, v));
    }

    public int copy(int a, int i, int b, int j, int n) {
        if (!isRow(a) || !isRow(b)) {
            return BAD;
        }
        Row from = rows[a];
        Row to = rows[b];
        if (from.missing || to.missing) {
            return found(NULL);
        }
        if (from.lane != to.lane) {
            return found(STORE);
        }
        if (!from.holds(i, n) || !to.holds(j, n)) {
            return found(PLACE);
        }
        System.arraycopy(from.items, i, to.items, j, n);
        return well(n);
    }

    public int drop(int row) {
        if (!isRow(row)) {
            return BAD;
        }
        Row one = rows[row];
        if (one.missing) {
            return found(NULL);
        }
        one.missing = true;
        return well(one.size);
    }

    // ---- what is told

    public int feed(int letter) {
        if (!isWithin(letter, 0, 255)) {
            return BAD;
        }
        if (reader.bytes >= MOST_BYTES) {
            return FULL;
        }
        reader.append(letter);
        return reader.bytes;
    }

    public int estuary() {
        reader.read();
        if (reader.fault != 0) {
            latestFault = reader.fault;
            return FAULTS - reader.place;
        }
        now.become(reader.draft);
        acts.forget();
        return now.sheetCount;
    }

    public int fault() {
        return latestFault;
    }

    public int undo() {
        if (acts.kept == 0) {
            return STATE;
        }
        acts.takeBack(now);
        return acts.kept;
    }

    // ---- what is done

    public int hours(int n) {
        if (!now.told) {
            return STATE;
        }
        if (!isWithin(n, 1, 24)) {
            return BAD;
        }
        if (now.hour + n > LAST_HOUR) {
            return FULL;
        }
        for (int i = 0; i < n; i++) {
            acts.keep(now);
            now.passHour();
        }
        return now.numbered;
    }

    public int step(int way) {
        if (!now.told) {
            return STATE;
        }
        if (!isWithin(way, 0, 1)) {
            return BAD;
        }
        int to = way == 0 ? now.walker - 1 : now.walker + 1;
        if (!now.isCell(to)) {
            return STATE;
        }
        acts.keep(now);
        now.walker = to;
        return to;
    }

    public int wind(int wind, int v) {
        if (!now.isWind(wind) || !isWithin(v, 0, STRONGEST)) {
            return BAD;
        }
        int was = now.winds[wind];
        acts.keep(now);
        now.winds[wind] = v;
        return was;
    }

    public int wake(int v) {
        if (!now.told) {
            return STATE;
        }
        if (!isWithin(v, 0, 15)) {
            return BAD;
        }
        int was = now.awake;
        acts.keep(now);
        now.awake = v;
        return was;
    }

    public int let(int sheet, int cell, int thick) {
        if (!now.isSheet(sheet) || !now.isCell(cell) || !isWithin(thick, 1, MOST_THICK)) {
            return BAD;
        }
        if (now.isIn(sheet)) {
            return STATE;
        }
        acts.keep(now);
        now.admit(sheet, cell, thick);
        return now.in;
    }

    public int sheet(int sheet, int what) {
        if (!now.isSheet(sheet)) {
            return BAD;
        }
        switch (what) {
            case 0:
                return now.placeOf(sheet);
            case 1:
                return now.wide[sheet];
            case 2:
                return now.thicknessOf(sheet);
            case 3:
                return now.number[sheet];
            case 4:
                return now.cellsUnder(sheet);
            default:
                return BAD;
        }
    }

    public int cell(int cell, int what) {
        if (!now.isCell(cell)) {
            return BAD;
        }
        switch (what) {
            case 0:
                return now.thicknessOver(cell);
            case 1:
                return now.sheetsOn(cell);
            case 2:
                return now.walker == cell ? 1 : 0;
            default:
                return BAD;
        }
    }

    public int stand(int what) {
        if (!now.told) {
            return STATE;
        }
        switch (what) {
            case 0:
                return now.cells;
            case 1:
                return now.point;
            case 2:
                return now.walker;
            case 3:
                return now.awake;
            case 4:
                return now.in;
            case 5:
                return now.withNumber();
            case 6:
                return now.numbered + 1;
            case 7:
                return now.gust();
            default:
                return BAD;
        }
    }

    // ---- foretold

    public int ahead(int sheet, int n, int what) {
        if (!now.isSheet(sheet) || !isFar(n) || !isWithin(what, 0, 2)) {
            return BAD;
        }
        Estuary then = foreteller.behind(now, n);
        if (what == 0) {
            return then.placeOf(sheet);
        }
        return what == 1 ? then.thicknessOf(sheet) : then.number[sheet];
    }

    public int over(int cell, int n) {
        if (!now.isCell(cell) || !isFar(n)) {
            return BAD;
        }
        return foreteller.behind(now, n).thicknessOver(cell);
    }

    public int when(int sheet, int how) {
        if (!now.isSheet(sheet) || !isWithin(how, 0, 1)) {
            return BAD;
        }
        return how == 0 ? foreteller.firstGone(now, sheet) : foreteller.firstNumbered(now, sheet);
    }

    public int overlap(int what) {
        if (!now.told) {
            return STATE;
        }
        if (!isWithin(what, 0, 1)) {
            return BAD;
        }
        return foreteller.firstOverlap(now, what);
    }

    public int walk(int n, int k) {
        if (!now.told) {
            return STATE;
        }
        if (!isWithin(n, 1, 6) || k < -1) {
            return BAD;
        }
        if (k >= n) {
            return NONE;
        }
        return k == -1 ? foreteller.leastSeen(now, n) : foreteller.leastSeenCell(now, n, k);
    }

    public int meet(int sheet) {
        if (!now.isSheet(sheet)) {
            return BAD;
        }
        return foreteller.firstMeeting(now, sheet);
    }

    public int site(int n, int what) {
        if (!now.told) {
            return STATE;
        }
        if (!isWithin(n, 1, 30) || !isWithin(what, 0, 1)) {
            return BAD;
        }
        return foreteller.bestStand(now, n, what);
    }

    public int waking(int n, int what) {
        if (!now.told) {
            return STATE;
        }
        if (!isWithin(n, 1, 30) || !isWithin(what, 0, 1)) {
            return BAD;
        }
        int least = foreteller.leastAwake(now, n);
        return what == 0 ? least : Integer.bitCount(least);
    }

    public int meant(int v, int what) {
        if (!now.told) {
            return STATE;
        }
        if (!isWithin(v, 0, MOST_SHEETS * MOST_THICK) || !isWithin(what, 0, 2)) {
            return BAD;
        }
        return now.setsAsThick(v, what);
    }

    public int share(int sheet, int n) {
        if (!now.isSheet(sheet) || !isWithin(n, 0, 999)) {
            return BAD;
        }
        return now.pailsOf(sheet, n);
    }

    public int byTurns(int n, int m) {
        if (!now.told) {
            return STATE;
        }
        if (!isWithin(n, 0, 4) || !isWithin(m, 1, 20)) {
            return BAD;
        }
        return foreteller.outcomeOfTurns(now, n, m);
    }

    public int who(int sheet, int which, int row, int i, int n) {
        if (!now.isSheet(sheet) || !isWithin(which, 0, 2) || !isRow(row) || !isWithin(n, 1, 12)) {
            return BAD;
        }
        if (!now.isIn(sheet)) {
            return STATE;
        }
        return allThatFits(which, sheet, row, i, n);
    }

    public int gusts(int wind, int row, int i, int n) {
        if (!now.isWind(wind) || !isRow(row) || !isWithin(n, 1, 12)) {
            return BAD;
        }
        return allThatFits(Foreteller.ITS_GUST, wind, row, i, n);
    }

    public long lift(int cell, int n, int p, int what) {
        if (!now.isCell(cell) || !isFar(n) || !isWithin(p, 0, 10) || !isWithin(what, 0, 1)) {
            return BAD;
        }
        int sheets = Integer.bitCount(foreteller.behind(now, n).sheetsOn(cell));
        int common = commonDivisor(p, 10);
        return power((what == 0 ? p : 10) / common, sheets);
    }

    public int drawn(int n, int seed, int what) {
        if (!now.told) {
            return STATE;
        }
        if (!isFar(n) || !isWithin(seed, 1, 999999) || !isWithin(what, 0, 1)) {
            return BAD;
        }
        return foreteller.drawYears(now, n, seed, what);
    }

    public int image(int k) {
        if (!isWithin(k, 0, IMAGES - 1)) {
            return BAD;
        }
        if (!now.told) {
            return STATE;
        }
        images[k].become(now);
        return 1;
    }

    public int restore(int k) {
        if (!isWithin(k, 0, IMAGES - 1)) {
            return BAD;
        }
        if (!images[k].told) {
            return STATE;
        }
        now.become(images[k]);
        acts.forget();
        return 1;
    }

    // ---- asked

    public int kind(int one) {
        return now.isSheet(one) ? now.kinds[one] : BAD;
    }

    public int as(int one, int kind) {
        if (!now.isSheet(one) || !isWithin(kind, 0, KINDS - 1)) {
            return BAD;
        }
        if (!isA(now.kinds[one], kind)) {
            return found(KIND);
        }
        return well(one);
    }

    public int ask(int one, int what) {
        if (!now.isSheet(one) || !isWithin(what, 0, 1)) {
            return BAD;
        }
        return asks.askOf(now, one, what);
    }

    public int trace(int i) {
        return isWithin(i, 0, asks.begun - 1) ? asks.bodies[i] : NONE;
    }

    public int count(int what) {
        switch (what) {
            case 0:
                return rowsThere();
            case 1:
                return now.sheetCount;
            case 2:
                return now.windCount;
            case 3:
                return now.hour;
            case 4:
                return now.numbered;
            case 5:
                return Integer.bitCount(now.in);
            case 6:
                return acts.kept;
            case 7:
                return reader.bytes;
            default:
                return BAD;
        }
    }

    public int status() {
        return latestFinding;
    }

    private int found(int finding) {
        latestFinding = finding;
        return FINDINGS - finding;
    }

    private int well(int answer) {
        latestFinding = 0;
        return answer;
    }

    private int allThatFits(int what, int one, int row, int i, int n) {
        Row told = rows[row];
        if (told.missing) {
            return found(NULL);
        }
        if (!told.holds(i, n)) {
            return found(PLACE);
        }
        foreteller.hear(told, i, n);
        return well(foreteller.fitting(now, what, one));
    }

    private int rowsThere() {
        int there = 0;
        for (int i = 0; i < ROWS; i++) {
            there += rows[i].missing ? 0 : 1;
        }
        return there;
    }

    private static boolean isRow(int row) {
        return isWithin(row, 0, ROWS - 1);
    }

    private static boolean isFar(int n) {
        return isWithin(n, 0, FAR);
    }

    private static boolean isWithin(int v, int least, int most) {
        return v >= least && v <= most;
    }

    private static boolean isA(int kind, int asked) {
        // No kind is more than two away from FOG, so one look upwards is enough.
        return asked == kind || asked == widerKind(kind) || asked == FOG;
    }

    private static int widerKind(int kind) {
        switch (kind) {
            case BANK:
            case WISP:
                return SHEET;
            case ODD:
                return HAAR;
            default:
                return FOG;
        }
    }

    private static int commonDivisor(int a, int b) {
        int common = 1;
        for (int d = 2; d <= b; d++) {
            if (a % d == 0 && b % d == 0) {
                common = d;
            }
        }
        return common;
    }

    private static long power(int base, int times) {
        long product = 1;
        for (int i = 0; i < times; i++) {
            product *= base;
        }
        return product;
    }

    /** A ROW: it keeps room for all its ITEMS from the start, so that no call makes any. */
    private static final class Row {
        final int[] items = new int[MOST_ITEMS];
        boolean missing = true;
        int lane;
        int size;

        void make(int newLane, int n) {
            missing = false;
            lane = newLane;
            size = n;
            Arrays.fill(items, 0);
        }

        boolean holds(int i, int n) {
            return i >= 0 && i <= size && n >= 0 && n <= size - i;
        }

        int put(int i, int v) {
            items[i] = lowestBits(v);
            return items[i];
        }

        private int lowestBits(int v) {
            if (lane == 0) {
                return (byte) v;
            }
            return lane == 1 ? (short) v : v;
        }
    }

    /** An ESTUARY as it stands in an HOUR. */
    private static final class Estuary {
        final int[] winds = new int[MOST_WINDS];
        final int[] kinds = new int[MOST_SHEETS];
        final int[] at = new int[MOST_SHEETS];
        final int[] wide = new int[MOST_SHEETS];
        final int[] thick = new int[MOST_SHEETS];
        final int[] number = new int[MOST_SHEETS];
        boolean told;
        int cells;
        int point;
        int walker;
        int awake;
        int windCount;
        int sheetCount;
        int hour;
        int in;
        int numbered;

        void become(Estuary other) {
            System.arraycopy(other.winds, 0, winds, 0, MOST_WINDS);
            System.arraycopy(other.kinds, 0, kinds, 0, MOST_SHEETS);
            System.arraycopy(other.at, 0, at, 0, MOST_SHEETS);
            System.arraycopy(other.wide, 0, wide, 0, MOST_SHEETS);
            System.arraycopy(other.thick, 0, thick, 0, MOST_SHEETS);
            System.arraycopy(other.number, 0, number, 0, MOST_SHEETS);
            told = other.told;
            cells = other.cells;
            point = other.point;
            walker = other.walker;
            awake = other.awake;
            windCount = other.windCount;
            sheetCount = other.sheetCount;
            hour = other.hour;
            in = other.in;
            numbered = other.numbered;
        }

        void clear() {
            Arrays.fill(number, 0);
            told = false;
            cells = 0;
            windCount = 0;
            sheetCount = 0;
            hour = 0;
            in = 0;
            numbered = 0;
        }

        void addWind(int v) {
            if (windCount < MOST_WINDS) {
                winds[windCount] = v;
                windCount++;
            }
        }

        void addSheet(int kind, int cell, int cellsWide, int thickness) {
            if (sheetCount < MOST_SHEETS) {
                kinds[sheetCount] = kind;
                wide[sheetCount] = cellsWide;
                admit(sheetCount, cell, thickness);
                sheetCount++;
            }
        }

        void admit(int sheet, int cell, int thickness) {
            in |= 1 << sheet;
            at[sheet] = cell;
            thick[sheet] = thickness;
        }

        boolean isSheet(int sheet) {
            return sheet >= 0 && sheet < sheetCount;
        }

        boolean isWind(int wind) {
            return wind >= 0 && wind < windCount;
        }

        boolean isCell(int cell) {
            return cell >= 0 && cell < cells;
        }

        boolean isIn(int sheet) {
            return (in >> sheet & 1) != 0;
        }

        int windOfHour() {
            return windCount == 0 ? 0 : hour % windCount;
        }

        int gust() {
            return winds[windOfHour()];
        }

        boolean clerkIsAwake() {
            return (awake >> (hour & 3) & 1) != 0;
        }

        void passHour() {
            int gust = gust();
            for (int s = 0; s < sheetCount; s++) {
                if (isIn(s)) {
                    drift(s, gust);
                }
            }
            if (clerkIsAwake()) {
                giveNumbers();
            }
            hour++;
        }

        private void drift(int sheet, int gust) {
            int to = at[sheet] + cellsDrifted(kinds[sheet], gust - CALM);
            int left = thick[sheet] + thickened(kinds[sheet], gust == CALM);
            if (left <= 0 || to >= cells || to + wide[sheet] <= 0) {
                in &= ~(1 << sheet);
                return;
            }
            at[sheet] = to;
            thick[sheet] = Math.min(left, MOST_THICK);
        }

        private static int cellsDrifted(int kind, int up) {
            switch (kind) {
                case BANK:
                    return up / 2;
                case WISP:
                    return up * 2;
                case HAAR:
                    return -1;
                case ODD:
                    return 0;
                default:
                    return up;
            }
        }

        private int thickened(int kind, boolean calm) {
            int byHour = hour % 2 == 0 ? 0 : -1;
            switch (kind) {
                case WISP:
                    return byHour - 1;
                case HAAR:
                    return calm ? 0 : -1;
                case ODD:
                    return calm ? 1 : -1;
                default:
                    return byHour;
            }
        }

        private void giveNumbers() {
            for (int s = 0; s < sheetCount; s++) {
                if (number[s] == 0 && liesOn(s, point)) {
                    numbered++;
                    number[s] = numbered;
                }
            }
        }

        boolean liesOn(int sheet, int cell) {
            return isIn(sheet) && at[sheet] <= cell && cell < at[sheet] + wide[sheet];
        }

        int placeOf(int sheet) {
            return isIn(sheet) ? at[sheet] : NONE;
        }

        int thicknessOf(int sheet) {
            return isIn(sheet) ? thick[sheet] : 0;
        }

        int cellsUnder(int sheet) {
            int under = 0;
            for (int c = 0; c < cells; c++) {
                under |= liesOn(sheet, c) ? 1 << c : 0;
            }
            return under;
        }

        int sheetsOn(int cell) {
            int on = 0;
            for (int s = 0; s < sheetCount; s++) {
                on |= liesOn(s, cell) ? 1 << s : 0;
            }
            return on;
        }

        int thicknessOver(int cell) {
            int over = 0;
            for (int s = 0; s < sheetCount; s++) {
                over += liesOn(s, cell) ? thick[s] : 0;
            }
            return over;
        }

        int withNumber() {
            int with = 0;
            for (int s = 0; s < sheetCount; s++) {
                with |= number[s] != 0 ? 1 << s : 0;
            }
            return with;
        }

        /** The first pair that overlaps, 10 times the lesser and the other; NONE. */
        int overlappingPair() {
            for (int a = 0; a < sheetCount; a++) {
                int under = cellsUnder(a);
                for (int b = a + 1; b < sheetCount; b++) {
                    if ((under & cellsUnder(b)) != 0) {
                        return 10 * a + b;
                    }
                }
            }
            return NONE;
        }

        int setsAsThick(int v, int what) {
            int sets = 0;
            int inAll = in;
            int inAny = 0;
            for (int set = 0; set < 1 << sheetCount; set++) {
                if ((set & ~in) == 0 && thicknessOfSet(set) == v) {
                    sets++;
                    inAll &= set;
                    inAny |= set;
                }
            }
            if (what == 0) {
                return sets;
            }
            if (what == 2) {
                return inAny;
            }
            return sets == 0 ? 0 : inAll;
        }

        private int thicknessOfSet(int set) {
            int together = 0;
            for (int s = 0; s < sheetCount; s++) {
                together += (set >> s & 1) != 0 ? thick[s] : 0;
            }
            return together;
        }

        int pailsOf(int sheet, int n) {
            int all = 0;
            for (int s = 0; s < sheetCount; s++) {
                all += wide[s] * thicknessOf(s);
            }
            if (!isIn(sheet) || all <= 0) {
                return 0;
            }
            int over = n;
            int inAhead = 0;
            for (int s = 0; s < sheetCount; s++) {
                over -= n * wide[s] * thicknessOf(s) / all;
                inAhead += s < sheet && isIn(s) ? 1 : 0;
            }
            return n * wide[sheet] * thick[sheet] / all + (inAhead < over ? 1 : 0);
        }
    }

    /** The latest ACTS: how the ESTUARY was ahead of each. */
    private static final class Acts {
        private final Estuary[] before = new Estuary[MOST_ACTS];
        private int next;
        int kept;

        Acts() {
            for (int i = 0; i < MOST_ACTS; i++) {
                before[i] = new Estuary();
            }
        }

        void keep(Estuary now) {
            before[next].become(now);
            next = (next + 1) % MOST_ACTS;
            kept = Math.min(kept + 1, MOST_ACTS);
        }

        void takeBack(Estuary now) {
            next = (next + MOST_ACTS - 1) % MOST_ACTS;
            kept--;
            now.become(before[next]);
        }

        void forget() {
            kept = 0;
        }
    }

    /** THE TAPE, read into a draft; behind the first FAULT nothing more is taken. */
    private static final class Reader {
        private static final int NUMBER = 256, NO_TOKEN = 257, END = 258;
        private static final int CANNOT_STAND = 1, NOT_AS_TOLD = 2, NO_ROOM = 3;

        final Estuary draft = new Estuary();
        int bytes;
        int fault;
        int place;
        private final int[] tape = new int[MOST_BYTES];
        private int token;
        private int value;
        private int behind;

        void append(int letter) {
            if (bytes < MOST_BYTES) {
                tape[bytes] = letter;
                bytes++;
            }
        }

        void read() {
            fault = 0;
            behind = 0;
            draft.clear();
            nextToken();
            readLaw();
            readWind();
            for (int i = 0; i < MOST_WINDS && fault == 0 && token == 'g'; i++) {
                readWind();
            }
            readSheet();
            for (int i = 0; i < MOST_SHEETS && fault == 0 && token != END; i++) {
                readSheet();
            }
            draft.told = fault == 0;
            bytes = 0;
        }

        private void readLaw() {
            take('e');
            draft.cells = takeNumber(6, MOST_CELLS);
            take(',');
            draft.point = takeNumber(0, draft.cells - 1);
            take(',');
            draft.walker = takeNumber(0, draft.cells - 1);
            take(',');
            draft.awake = takeNumber(0, 15);
            take(';');
        }

        private void readWind() {
            if (token == 'g' && draft.windCount == MOST_WINDS) {
                fail(NO_ROOM);
            }
            take('g');
            draft.addWind(takeNumber(0, STRONGEST));
            take(';');
        }

        private void readSheet() {
            int kind = kindOfSort(token);
            if (kind == FOG) {
                fail(CANNOT_STAND);
            } else if (draft.sheetCount == MOST_SHEETS) {
                fail(NO_ROOM);
            }
            take(token);
            int cell = takeNumber(0, draft.cells - 1);
            take(',');
            int wide = takeNumber(1, 5);
            take(',');
            int thick = takeNumber(1, MOST_THICK);
            take(';');
            draft.addSheet(kind, cell, wide, thick);
        }

        private static int kindOfSort(int letter) {
            switch (letter) {
                case 's':
                    return SHEET;
                case 'b':
                    return BANK;
                case 'w':
                    return WISP;
                case 'h':
                    return HAAR;
                case 'o':
                    return ODD;
                default:
                    return FOG;
            }
        }

        private void fail(int number) {
            if (fault == 0) {
                fault = number;
            }
        }

        private void take(int wanted) {
            if (fault == 0 && token != wanted) {
                fail(CANNOT_STAND);
            }
            nextToken();
        }

        private int takeNumber(int least, int most) {
            if (fault == 0 && token != NUMBER) {
                fail(CANNOT_STAND);
            } else if (fault == 0 && !isWithin(value, least, most)) {
                fail(NOT_AS_TOLD);
            }
            int taken = value;
            nextToken();
            return fault == 0 ? taken : 0;
        }

        private void nextToken() {
            if (fault != 0) {
                return;
            }
            place = behind;
            if (place >= bytes) {
                token = END;
                return;
            }
            int first = tape[place];
            if (isFigure(first)) {
                readFigures();
                return;
            }
            behind = place + 1;
            token = isWithin(first, 'a', 'z') || first == ',' || first == ';' ? first : NO_TOKEN;
        }

        private void readFigures() {
            value = 0;
            for (int i = place; i < bytes && i < place + 3 && isFigure(tape[i]); i++) {
                value = 10 * value + tape[i] - '0';
                behind = i + 1;
            }
            token = behind - place <= 2 ? NUMBER : NO_TOKEN;
        }

        private static boolean isFigure(int letter) {
            return isWithin(letter, '0', '9');
        }
    }

    /** Looks ahead in a copy of the ESTUARY, so that nothing changes. */
    private static final class Foreteller {
        private static final int MOST_WALK = 6, MOST_TOLD = 12;
        private static final int ITS_KIND = 0, ITS_START = 1, ITS_THICK = 2, ITS_GUST = 3;

        private final Estuary then = new Estuary();
        private final int[][] overThen = new int[MOST_WALK][MOST_CELLS];
        private final int[][] leastFrom = new int[MOST_WALK + 1][MOST_CELLS];
        private final int[] seen = new int[MOST_CELLS];
        private final int[] told = new int[MOST_TOLD];
        private int hoursTold;

        Estuary behind(Estuary now, int n) {
            then.become(now);
            for (int i = 0; i < n; i++) {
                then.passHour();
            }
            return then;
        }

        int firstGone(Estuary now, int sheet) {
            then.become(now);
            for (int n = 0; n <= FAR; n++) {
                if (!then.isIn(sheet)) {
                    return n;
                }
                then.passHour();
            }
            return NONE;
        }

        int firstNumbered(Estuary now, int sheet) {
            then.become(now);
            for (int n = 0; n <= FAR; n++) {
                if (then.number[sheet] != 0) {
                    return n;
                }
                then.passHour();
            }
            return NONE;
        }

        int firstOverlap(Estuary now, int what) {
            then.become(now);
            for (int n = 0; n <= FAR; n++) {
                int pair = then.overlappingPair();
                if (pair != NONE) {
                    return what == 0 ? n : pair;
                }
                then.passHour();
            }
            return NONE;
        }

        int leastSeen(Estuary now, int n) {
            weighWalks(now, n);
            return leastFrom[0][now.walker];
        }

        int leastSeenCell(Estuary now, int n, int k) {
            weighWalks(now, n);
            int cell = now.walker;
            for (int h = 0; h <= k; h++) {
                cell = bestNext(h, cell);
            }
            return cell;
        }

        /** Backwards, so that each row of steps need not be gone by itself. */
        private void weighWalks(Estuary now, int n) {
            then.become(now);
            for (int h = 0; h < n; h++) {
                then.passHour();
                noteOver(overThen[h]);
            }
            Arrays.fill(leastFrom[n], 0);
            for (int h = n - 1; h >= 0; h--) {
                for (int c = 0; c < now.cells; c++) {
                    leastFrom[h][c] = weightOf(h, bestNext(h, c));
                }
            }
        }

        private void noteOver(int[] cells) {
            for (int c = 0; c < then.cells; c++) {
                cells[c] = then.thicknessOver(c);
            }
        }

        private int weightOf(int h, int next) {
            return overThen[h][next] + leastFrom[h + 1][next];
        }

        private int bestNext(int h, int cell) {
            int best = Math.max(cell - 1, 0);
            int highest = Math.min(cell + 1, then.cells - 1);
            for (int next = best + 1; next <= highest; next++) {
                if (weightOf(h, next) < weightOf(h, best)) {
                    best = next;
                }
            }
            return best;
        }

        int firstMeeting(Estuary now, int sheet) {
            then.become(now);
            int reached = 1 << now.walker;
            for (int n = 0; n <= 20; n++) {
                if ((then.cellsUnder(sheet) & reached) != 0) {
                    return n;
                }
                reached |= reached << 1 | reached >> 1;
                reached &= (1 << now.cells) - 1;
                then.passHour();
            }
            return NONE;
        }

        /** No sheet drifts by where the clerk stands, so one look ahead serves for all cells. */
        int bestStand(Estuary now, int n, int what) {
            then.become(now);
            Arrays.fill(seen, now.withNumber());
            for (int i = 0; i < n; i++) {
                boolean awake = then.clerkIsAwake();
                then.passHour();
                for (int c = 0; awake && c < now.cells; c++) {
                    seen[c] |= then.sheetsOn(c);
                }
            }
            int best = 0;
            for (int c = 1; c < now.cells; c++) {
                if (Integer.bitCount(seen[c]) > Integer.bitCount(seen[best])) {
                    best = c;
                }
            }
            return what == 0 ? best : Integer.bitCount(seen[best]);
        }

        int leastAwake(Estuary now, int n) {
            then.become(now);
            Arrays.fill(seen, 0);
            for (int i = 0; i < n; i++) {
                int quarter = then.hour & 3;
                then.passHour();
                seen[quarter] |= then.sheetsOn(now.point);
            }
            int had = now.withNumber();
            int most = numberedBy(15, had);
            int best = 15;
            for (int awake = 14; awake >= 0; awake--) {
                if (numberedBy(awake, had) == most && Integer.bitCount(awake) <= Integer.bitCount(best)) {
                    best = awake;
                }
            }
            return best;
        }

        private int numberedBy(int awake, int had) {
            int with = had;
            for (int quarter = 0; quarter < 4; quarter++) {
                with |= (awake >> quarter & 1) != 0 ? seen[quarter] : 0;
            }
            return Integer.bitCount(with);
        }

        /** All turns come to where the walker is and whether the wind is turned: two looks ahead serve for all. */
        int outcomeOfTurns(Estuary now, int n, int m) {
            behind(now, m);
            noteOver(overThen[0]);
            then.become(now);
            int wind = now.windOfHour();
            then.winds[wind] = STRONGEST - now.winds[wind];
            for (int i = 0; i < m; i++) {
                then.passHour();
            }
            noteOver(overThen[1]);
            return walkersTurn(n, now.walker, 0);
        }

        private int walkersTurn(int left, int cell, int turned) {
            if (left <= 0) {
                return overThen[turned][cell];
            }
            int least = courtsTurn(left - 1, cell, turned);
            if (cell > 0) {
                least = Math.min(least, courtsTurn(left - 1, cell - 1, turned));
            }
            if (cell < then.cells - 1) {
                least = Math.min(least, courtsTurn(left - 1, cell + 1, turned));
            }
            return least;
        }

        private int courtsTurn(int left, int cell, int turned) {
            if (left <= 0) {
                return overThen[turned][cell];
            }
            return Math.max(walkersTurn(left - 1, cell, turned), walkersTurn(left - 1, cell, 1 - turned));
        }

        /** Takes n ITEMS from i on, which the ROW holds, as what was over the walker. */
        void hear(Row row, int i, int n) {
            hoursTold = Math.min(n, MOST_TOLD);
            System.arraycopy(row.items, i, told, 0, hoursTold);
        }

        /** All values of a SHEET's kind, start or thick, or of a WIND, by which it is as heard (bits). */
        int fitting(Estuary now, int what, int one) {
            int least = what == ITS_START || what == ITS_GUST ? 0 : 1;
            int most = mostOf(now, what);
            int fitting = 0;
            for (int v = least; v <= most; v++) {
                then.become(now);
                suppose(what, one, v);
                fitting |= isAsTold() ? 1 << v : 0;
            }
            return fitting;
        }

        private static int mostOf(Estuary now, int what) {
            switch (what) {
                case ITS_KIND:
                    return ODD;
                case ITS_START:
                    return now.cells - 1;
                case ITS_THICK:
                    return MOST_THICK;
                default:
                    return STRONGEST;
            }
        }

        private void suppose(int what, int one, int v) {
            switch (what) {
                case ITS_KIND:
                    then.kinds[one] = v;
                    break;
                case ITS_START:
                    then.at[one] = v;
                    break;
                case ITS_THICK:
                    then.thick[one] = v;
                    break;
                default:
                    then.winds[one] = v;
                    break;
            }
        }

        private boolean isAsTold() {
            for (int i = 0; i < hoursTold; i++) {
                then.passHour();
                if (then.thicknessOver(then.walker) != told[i]) {
                    return false;
                }
            }
            return true;
        }

        int drawYears(Estuary now, int n, int seed, int what) {
            then.become(now);
            long x = seed;
            int over = 0;
            for (int i = 0; i < n; i++) {
                x = x * 16807 % 2147483647;
                drawOne((int) x);
                then.passHour();
                over += then.thicknessOver(then.point);
            }
            return what == 0 ? then.numbered : over;
        }

        private void drawOne(int x) {
            if (then.windCount <= 0 || then.sheetCount <= 0 || then.cells <= 0) {
                return;
            }
            if (x % 3 == 0) {
                then.winds[x % then.windCount] = x % 5;
            }
            int sheet = x % then.sheetCount;
            if (!then.isIn(sheet)) {
                then.admit(sheet, x % then.cells, x % 9 + 1);
            }
        }
    }

    /** ASKS, each by the BODY of the nearest KIND; the BODIES that began stay in a trace. */
    private static final class Asks {
        private static final int ASK_SIZE = 0, ASK_MARK = 1, DEEPEST = 16;
        private static final int[] SIZE_BODIES = {10, 11, 12, 0, 13, 14};
        private static final int[] MARK_BODIES = {20, 21, 24, 22, 23, 0};

        final int[] bodies = new int[16];
        int begun;

        int askOf(Estuary now, int one, int what) {
            begun = 0;
            return answer(now, one, what, 0);
        }

        private int answer(Estuary now, int one, int what, int depth) {
            return begin(nearestBody(now.kinds[one], what), now, one, depth + 1);
        }

        private static int nearestBody(int kind, int what) {
            int[] told = what == ASK_SIZE ? SIZE_BODIES : MARK_BODIES;
            return told[kind] != 0 ? told[kind] : told[widerKind(kind)];
        }

        private int begin(int body, Estuary now, int one, int depth) {
            if (depth > DEEPEST) {
                return 0;
            }
            leave(body);
            int deeper = depth + 1;
            switch (body) {
                case 10:
                    return now.wide[one];
                case 11:
                    return begin(10, now, one, deeper) + answer(now, one, ASK_MARK, deeper);
                case 12:
                    return -begin(11, now, one, deeper);
                case 13:
                    return begin(10, now, one, deeper) - 100;
                case 14:
                    return 2 * begin(13, now, one, deeper);
                case 20:
                    return one;
                case 21:
                    return begin(20, now, one, deeper) + now.thick[one];
                case 22:
                    return begin(21, now, one, deeper) - 1000;
                case 23:
                    return begin(20, now, one, deeper) - answer(now, one, ASK_SIZE, deeper);
                case 24:
                    return 2 * begin(21, now, one, deeper);
                default:
                    return 0;
            }
        }

        private void leave(int body) {
            if (begun < bodies.length) {
                bodies[begun] = body;
                begun++;
            }
        }
    }
}
