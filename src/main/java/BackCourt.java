/** Yesterday's court: RULINGS of DAYS that CITE one another, and what of them STANDS. */
public final class BackCourt {
    public static final int BAD = -1, FULL = -2, FINDING = -3, STATE = -4, SPENT = -6, NONE = -9;

    private static final int ROWS = 6, ROW_MOST = 40, TEXTS = 4, TEXT_MOST = 80, PLACES = 3;
    private static final int RULINGS = 9, DAYS = 10, KINDS = 6, MARKS = 5, CASES = 32;
    private static final int EVERY_MARK = 31;
    private static final int BOUND = 1, FIRM = 2, RUMOUR = 3, CHAINED = 4, ROCK = 5;
    private static final int NOTHING = 1, BEYOND = 2, UNLIKE = 3, NOUGHT = 4, SIZE = 5;
    private static final int WHATS = 7, COUNTS = 8;
    private static final int TO_FALL = 0, TO_STAND = 1, TO_SETTLE = 2, FILED_MOST = 3;
    private static final int BLANK = 32, FIGURE = 48, PLUS = 43, MINUS = 45, DOT = 46;
    private static final int[] LETTERS = {114, 98, 102, 117, 99, 107};
    private static final int LOT_STEP = 48271, LOT_MODULUS = 2147483647;
    /** Put ahead of a byte so that what it was is never taken for a refusal. */
    private static final int BYTE_SHIFT = 1000;

    private final Row[] rows = new Row[ROWS];
    private final Row[] texts = new Row[TEXTS];
    private final Court court = new Court();
    private final Court[] kept = new Court[PLACES];
    private final Reader reader = new Reader();
    private final Bench bench = new Bench();
    private final Ways found = new Ways();
    private final int[] picked = new int[FILED_MOST];
    private final int[] answered = new int[SIZE + 1];
    private int latest = 0;
    private int told = 0;
    private long upperTold = 0;
    private long lowerTold = 1;

    public BackCourt() {
        for (int r = 0; r < ROWS; r++) {
            rows[r] = new Row(ROW_MOST);
        }
        for (int t = 0; t < TEXTS; t++) {
            texts[t] = new Row(TEXT_MOST);
        }
        for (int k = 0; k < PLACES; k++) {
            kept[k] = new Court();
        }
    }

    // ---- 1 rows, texts, courts

    public int row(int r, int n) {
        return renewed(rows, r, n, 0);
    }

    public int lay(int r, int i, int v) {
        if (!within(r, ROWS)) {
            return BAD;
        }
        int refusal = refusalOfPlace(rows[r], i);
        return refusal != 0 ? refusal : tell(rows[r].swap(i, v));
    }

    public int at(int r, int i) {
        if (!within(r, ROWS)) {
            return BAD;
        }
        int refusal = refusalOfPlace(rows[r], i);
        return refusal != 0 ? refusal : tell(rows[r].value(i));
    }

    public int tear(int r) {
        if (!within(r, ROWS)) {
            return BAD;
        }
        if (rows[r].isMissing()) {
            return refuse(NOTHING);
        }
        rows[r].remove();
        return 1;
    }

    public int copy(int r, int i, int to, int j, int n) {
        if (!within(r, ROWS) || !within(to, ROWS)) {
            return BAD;
        }
        if (n < 0) {
            return refuse(SIZE);
        }
        if (rows[r].isMissing() || rows[to].isMissing()) {
            return refuse(NOTHING);
        }
        if (!rows[r].hasRun(i, n) || !rows[to].hasRun(j, n)) {
            return refuse(BEYOND);
        }
        System.arraycopy(rows[r].values, i, rows[to].values, j, n);
        return 1;
    }

    public int mean(int r) {
        if (!within(r, ROWS)) {
            return BAD;
        }
        if (rows[r].isMissing()) {
            return refuse(NOTHING);
        }
        int size = rows[r].size;
        if (size == 0) {
            return refuse(NOUGHT);
        }
        return tell((int) (rows[r].sum() / size));
    }

    public int text(int t, int n) {
        return renewed(texts, t, n, BLANK);
    }

    public int put(int t, int i, int v) {
        if (!within(t, TEXTS)) {
            return BAD;
        }
        int refusal = refusalOfPlace(texts[t], i);
        return refusal != 0 ? refusal : texts[t].swap(i, (byte) v) + BYTE_SHIFT;
    }

    public int fault(int t) {
        if (!within(t, TEXTS)) {
            return BAD;
        }
        if (texts[t].isMissing()) {
            return refuse(NOTHING);
        }
        return reader.read(texts[t]);
    }

    public int court(int t) {
        if (!within(t, TEXTS)) {
            return BAD;
        }
        if (texts[t].isMissing()) {
            return refuse(NOTHING);
        }
        if (reader.read(texts[t]) != NONE) {
            return STATE;
        }
        court.become(reader.draft);
        for (int k = 0; k < PLACES; k++) {
            kept[k].cutTo(0);
        }
        return court.size;
    }

    public int ruling(int i, int what) {
        if (!court.has(i) || !within(what, WHATS)) {
            return BAD;
        }
        return tell(court.detail(i, what));
    }

    public int mark(int i, int kind) {
        if (!court.has(i) || kind == 0 || !within(kind, KINDS)) {
            return BAD;
        }
        if (!isOfKind(court.kind[i], kind)) {
            return refuse(UNLIKE);
        }
        switch (kind) {
            case BOUND:
                return court.dependsOn(i);
            case FIRM:
                return court.citations(i, -1);
            case RUMOUR:
                return court.citations(i, 1);
            case CHAINED:
                return Integer.bitCount(court.othersOfItsDay(i));
            default:
                findWays(0);
                return found.waysWith(i);
        }
    }

    public int reverse(int i, int v) {
        if (!court.has(i) || !within(v, 2)) {
            return BAD;
        }
        int was = court.verdict[i];
        court.verdict[i] = v;
        return was;
    }

    public int marks(int i, int set) {
        if (!court.has(i) || !within(set, CASES)) {
            return BAD;
        }
        int was = court.marks[i];
        court.marks[i] = set;
        return was;
    }

    // ---- 2 filed, struck

    public int file(int kind, int day, int verdict, int cites, int how) {
        if (!within(kind, KINDS) || !within(day, DAYS) || !within(verdict, 2)) {
            return BAD;
        }
        boolean citesNone = cites == NONE && how == 0;
        boolean citesOne = court.canBeCited(cites, day) && (how == 1 || how == -1);
        if (!citesNone && !citesOne) {
            return BAD;
        }
        if (court.size >= RULINGS) {
            return FULL;
        }
        court.add(kind, day, verdict, cites, how, 0);
        return court.size - 1;
    }

    public int strike(int n) {
        if (n < 0 || n > court.size) {
            return BAD;
        }
        int struck = court.size - n;
        court.cutTo(n);
        return struck;
    }

    public int keep(int k) {
        if (!within(k, PLACES)) {
            return BAD;
        }
        if (court.size == 0) {
            return STATE;
        }
        kept[k].become(court);
        return court.size;
    }

    public int on(int k) {
        if (!within(k, PLACES)) {
            return BAD;
        }
        if (!isKept(k)) {
            return refuse(NOTHING);
        }
        court.become(kept[k]);
        return court.size;
    }

    // ---- 3 what stands

    public int due(int set) {
        if (!within(set, 1 << court.size)) {
            return BAD;
        }
        bench.seat(court);
        int standing = 0;
        for (int i = 0; i < court.size; i++) {
            if (bench.isToStand(i, set)) {
                standing |= 1 << i;
            }
        }
        return standing;
    }

    public int ways() {
        findWays(0);
        told = found.first();
        return found.number;
    }

    public int nth(int i) {
        if (i < 0) {
            return BAD;
        }
        findWays(0);
        return i < found.number ? found.sets[i] : refuse(NOUGHT);
    }

    public int sure() {
        findWays(0);
        told = found.surelyFalling();
        return found.surelyStanding();
    }

    public int odds(int i) {
        if (!court.has(i)) {
            return BAD;
        }
        findWays(0);
        if (found.number == 0) {
            return refuse(NOUGHT);
        }
        int standing = found.waysWith(i);
        int divisor = greatestDivisor(standing, found.number);
        upperTold = standing / divisor;
        lowerTold = found.number / divisor;
        return 1;
    }

    public int together(int i) {
        if (!court.has(i)) {
            return BAD;
        }
        findWays(0);
        if (found.number == 0) {
            return refuse(NOUGHT);
        }
        int alike = court.everyRuling();
        for (int w = 0; w < found.number; w++) {
            int set = found.sets[w];
            alike &= holds(set, i) ? set : ~set;
        }
        return alike;
    }

    public int till(int day) {
        if (!within(day, DAYS)) {
            return BAD;
        }
        findWays(court.laterThan(day));
        told = found.first();
        return found.number;
    }

    public int flips(int i) {
        if (!court.has(i)) {
            return BAD;
        }
        int flips = 0;
        int before = 0;
        for (int day = court.day[i]; day < DAYS; day++) {
            findWays(court.laterThan(day));
            int now = holds(found.surelyStanding(), i) ? 1 : holds(found.surelyFalling(), i) ? -1 : 0;
            if (now != 0) {
                flips += now == -before ? 1 : 0;
                before = now;
            }
        }
        return flips;
    }

    public int jam() {
        for (int day = 0; day < DAYS; day++) {
            findWays(court.laterThan(day));
            if (found.number == 0) {
                return day;
            }
        }
        return NONE;
    }

    // ---- 4 what to file

    public int fell(int i, int r) {
        return court.has(i) && within(r, ROWS) ? fewest(TO_FALL, i, r) : BAD;
    }

    public int guard(int i, int r) {
        return court.has(i) && within(r, ROWS) ? fewest(TO_STAND, i, r) : BAD;
    }

    public int settle(int r) {
        return within(r, ROWS) ? fewest(TO_SETTLE, NONE, r) : BAD;
    }

    // ---- 5 what matters

    public int matter(int i) {
        if (!court.has(i)) {
            return BAD;
        }
        return changedWithout(1 << i);
    }

    public int judge() {
        if (court.size == 0) {
            return STATE;
        }
        int weightiest = NONE;
        int most = -1;
        for (int day = 0; day < DAYS; day++) {
            int sitting = court.ofDay(day);
            int changed = sitting == 0 ? -1 : changedWithout(sitting);
            if (changed > most) {
                weightiest = day;
                most = changed;
            }
        }
        told = most;
        return weightiest;
    }

    // ---- 6 cases

    public int like(int i, int marks) {
        if (!court.has(i) || !within(marks, CASES)) {
            return BAD;
        }
        return tell(court.likeness(i, marks, EVERY_MARK));
    }

    public int verdict(int marks, int set) {
        if (!within(marks, CASES) || !within(set, 1 << court.size)) {
            return BAD;
        }
        return court.decide(marks, set, EVERY_MARK);
    }

    public int surely(int marks) {
        if (!within(marks, CASES)) {
            return BAD;
        }
        findWays(0);
        if (found.number == 0) {
            return refuse(NOUGHT);
        }
        int ones = 0;
        for (int w = 0; w < found.number; w++) {
            ones += court.decide(marks, found.sets[w], EVERY_MARK);
        }
        told = ones;
        if (ones == 0) {
            return 0;
        }
        return ones == found.number ? 1 : NONE;
    }

    public int freed(int mark) {
        if (!within(mark, MARKS)) {
            return BAD;
        }
        findWays(0);
        if (found.number == 0) {
            return refuse(NOUGHT);
        }
        int set = found.first();
        int others = EVERY_MARK & ~(1 << mark);
        int freed = 0;
        for (int c = 0; c < CASES; c++) {
            if (court.decide(c, set, EVERY_MARK) == 1 && court.decide(c, set, others) == 0) {
                freed++;
            }
        }
        return freed;
    }

    public int code() {
        findWays(0);
        if (found.number == 0) {
            return refuse(NOUGHT);
        }
        int way = found.first();
        int verdicts = court.verdictsBy(way);
        int fewest = Integer.bitCount(way);
        int least = way;
        // Sets rise and only fewer ones take its place, so of those as few the least one stays.
        for (int set = 0; set < way; set++) {
            boolean fewer = (set & ~way) == 0 && Integer.bitCount(set) < fewest;
            if (fewer && court.agrees(set, verdicts)) {
                fewest = Integer.bitCount(set);
                least = set;
            }
        }
        told = least;
        return fewest;
    }

    // ---- 7 what fits

    public int kinds(int i, int set) {
        if (!court.has(i) || !within(set, 1 << court.size)) {
            return BAD;
        }
        bench.seat(court);
        int fitting = 0;
        for (int kind = 0; kind < KINDS; kind++) {
            bench.kind[i] = kind;
            if (bench.clash(set) == 0) {
                fitting |= 1 << kind;
            }
        }
        return fitting;
    }

    public int forged(int set) {
        if (!within(set, 1 << court.size)) {
            return BAD;
        }
        int fitting = 0;
        for (int i = 0; i < court.size; i++) {
            if (court.how[i] != 0) {
                bench.seat(court);
                bench.forgetCitation(i);
                fitting |= bench.clash(set) == 0 ? 1 << i : 0;
            }
        }
        return fitting;
    }

    public int torn(int seen, int set) {
        if (!within(seen, 1 << court.size) || !within(set, 1 << court.size)) {
            return BAD;
        }
        findWays(0);
        int fitting = 0;
        int least = NONE;
        for (int w = 0; w < found.number; w++) {
            if (((found.sets[w] ^ set) & seen) == 0) {
                least = fitting == 0 ? found.sets[w] : least;
                fitting++;
            }
        }
        told = least;
        return fitting;
    }

    // ---- 8 lots

    public int lots(int n, int seed) {
        if (n < 1 || n > RULINGS || seed < 1 || seed >= LOT_MODULUS) {
            return BAD;
        }
        if (court.size + n > RULINGS) {
            return FULL;
        }
        int lot = seed;
        for (int k = 0; k < n; k++) {
            lot = (int) ((long) LOT_STEP * lot % LOT_MODULUS);
            fileByLot(lot);
        }
        return court.size;
    }

    // ---- 9 what is told

    public int asked() {
        return told;
    }

    public long upper() {
        return upperTold;
    }

    public long lower() {
        return lowerTold;
    }

    public int count(int what) {
        return within(what, COUNTS) ? countOf(what) : BAD;
    }

    public int finding() {
        return latest;
    }

    public int findings(int f) {
        return f < 1 || f > SIZE ? BAD : answered[f];
    }

    public long digest() {
        long h = 17;
        for (int what = 0; what < COUNTS; what++) {
            h = 31 * h + countOf(what);
        }
        for (int i = 0; i < court.size; i++) {
            for (int what = 0; what < WHATS; what++) {
                h = 31 * h + court.detail(i, what);
            }
        }
        for (int k = 0; k < PLACES; k++) {
            h = 31 * h + (isKept(k) ? kept[k].size : -1);
        }
        for (int r = 0; r < ROWS; r++) {
            h = rows[r].digestFrom(h);
        }
        for (int t = 0; t < TEXTS; t++) {
            h = texts[t].digestFrom(h);
        }
        return h;
    }

    // ---- helpers

    private static boolean within(int number, int bound) {
        return number >= 0 && number < bound;
    }

    private static boolean holds(int set, int i) {
        return (set >> i & 1) == 1;
    }

    private static boolean isOfKind(int own, int kind) {
        return own == kind || own == CHAINED && kind == BOUND || own == ROCK && kind == FIRM;
    }

    /** Counts down, so that its end is seen: neither number is above 512. Never 0, so it can divide. */
    private static int greatestDivisor(int a, int b) {
        for (int d = b; d > 1; d--) {
            if (a % d == 0 && b % d == 0) {
                return d;
            }
        }
        return 1;
    }

    private int refuse(int finding) {
        latest = finding;
        answered[finding]++;
        return FINDING;
    }

    private int tell(int value) {
        told = value;
        return 1;
    }

    private int renewed(Row[] table, int r, int n, int filler) {
        if (!within(r, table.length) || n > table[r].values.length) {
            return BAD;
        }
        if (n < 0) {
            return refuse(SIZE);
        }
        table[r].renew(n, filler);
        return n;
    }

    private int refusalOfPlace(Row row, int i) {
        if (row.isMissing()) {
            return refuse(NOTHING);
        }
        return row.has(i) ? 0 : refuse(BEYOND);
    }

    /** Only a COURT with RULINGS is ever kept. */
    private boolean isKept(int k) {
        return kept[k].size > 0;
    }

    private void findWays(int absent) {
        bench.seat(court);
        bench.absent = absent;
        found.find(bench);
    }

    private int fewest(int goal, int i, int r) {
        bench.seat(court);
        for (int n = 0; n <= FILED_MOST; n++) {
            if (canReach(goal, i, n)) {
                rows[r].renew(n, 0);
                System.arraycopy(picked, 0, rows[r].values, 0, n);
                return n;
            }
        }
        return NONE;
    }

    /** A row of n numbers is told by one number, its figures being those, so that the first row comes first. */
    private boolean canReach(int goal, int i, int n) {
        int bound = 1;
        for (int k = 0; k < n; k++) {
            bound *= RULINGS;
        }
        for (int figures = 0; figures < bound; figures++) {
            if (pick(figures, n) && bench.fileAgainst(picked, n)) {
                found.find(bench);
                if (found.meets(goal, i)) {
                    return true;
                }
            }
        }
        return false;
    }

    /** False, if they are not rising, or not all there. */
    private boolean pick(int figures, int n) {
        int left = figures;
        int most = court.size - 1;
        for (int k = n - 1; k >= 0; k--) {
            picked[k] = left % RULINGS;
            if (picked[k] > most) {
                return false;
            }
            most = picked[k];
            left /= RULINGS;
        }
        return true;
    }

    private int changedWithout(int absent) {
        findWays(0);
        int standing = found.surelyStanding();
        int falling = found.surelyFalling();
        findWays(absent);
        int changed = standing ^ found.surelyStanding() | falling ^ found.surelyFalling();
        return Integer.bitCount(changed & ~absent);
    }

    private void fileByLot(int lot) {
        int day = (lot >> 3) % DAYS;
        int earlier = 0;
        for (int i = 0; i < court.size; i++) {
            earlier += court.canBeCited(i, day) ? 1 : 0;
        }
        int cites = NONE;
        int how = 0;
        if (earlier > 0) {
            cites = court.citable((lot >> 8) % earlier, day);
            how = (lot >> 14) % 2 == 0 ? -1 : 1;
        }
        court.add(lot % KINDS, day, (lot >> 7) % 2, cites, how, 0);
    }

    private int countOf(int what) {
        switch (what) {
            case 5:
                return there(rows);
            case 6:
                return there(texts);
            case 7:
                int courts = 0;
                for (int k = 0; k < PLACES; k++) {
                    courts += isKept(k) ? 1 : 0;
                }
                return courts;
            default:
                return court.countOf(what);
        }
    }

    private static int there(Row[] table) {
        int there = 0;
        for (int r = 0; r < table.length; r++) {
            there += table[r].isMissing() ? 0 : 1;
        }
        return there;
    }

    /** A ROW, or a TEXT as a row of bytes; its places are made once, so that no call makes any. */
    private static final class Row {
        final int[] values;
        int size = -1;

        Row(int most) {
            values = new int[Math.max(most, 0)];
        }

        boolean isMissing() {
            return size < 0;
        }

        boolean has(int i) {
            return within(i, size);
        }

        /** Written by differences, as i + n may pass the greatest int. */
        boolean hasRun(int i, int n) {
            return i >= 0 && i <= size && n >= 0 && n <= size - i;
        }

        int value(int i) {
            return has(i) ? values[i] : 0;
        }

        int swap(int i, int v) {
            int was = value(i);
            if (has(i)) {
                values[i] = v;
            }
            return was;
        }

        void renew(int n, int filler) {
            size = Math.min(n, values.length);
            for (int i = 0; i < size; i++) {
                values[i] = filler;
            }
        }

        void remove() {
            size = -1;
        }

        long sum() {
            long sum = 0;
            for (int i = 0; i < size; i++) {
                sum += values[i];
            }
            return sum;
        }

        long digestFrom(long start) {
            long h = 31 * start + size;
            for (int i = 0; i < size; i++) {
                h = 31 * h + values[i];
            }
            return h;
        }
    }

    /** RULINGS as they came. One CITES an earlier number alone, so the last ones can go without harm. */
    private static final class Court {
        final int[] kind = new int[RULINGS];
        final int[] day = new int[RULINGS];
        final int[] verdict = new int[RULINGS];
        final int[] cites = new int[RULINGS];
        final int[] how = new int[RULINGS];
        final int[] marks = new int[RULINGS];
        int size = 0;

        boolean has(int i) {
            return within(i, size);
        }

        int everyRuling() {
            return (1 << size) - 1;
        }

        boolean canBeCited(int i, int later) {
            return has(i) && day[i] < later;
        }

        /** The RULING of a lesser DAY that has so many such ones ahead. */
        int citable(int ahead, int later) {
            int left = ahead;
            for (int i = 0; i < size; i++) {
                if (canBeCited(i, later)) {
                    if (left == 0) {
                        return i;
                    }
                    left--;
                }
            }
            return NONE;
        }

        void add(int itsKind, int itsDay, int itsVerdict, int cited, int sign, int itsMarks) {
            if (size < RULINGS) {
                kind[size] = itsKind;
                day[size] = itsDay;
                verdict[size] = itsVerdict;
                cites[size] = cited;
                how[size] = sign;
                marks[size] = itsMarks;
                size++;
            }
        }

        void cutTo(int n) {
            if (within(n, size)) {
                size = n;
            }
        }

        void become(Court other) {
            cutTo(0);
            for (int i = 0; i < other.size; i++) {
                add(other.kind[i], other.day[i], other.verdict[i], other.cites[i], other.how[i], other.marks[i]);
            }
        }

        int detail(int i, int what) {
            switch (what) {
                case 0:
                    return kind[i];
                case 1:
                    return day[i];
                case 2:
                    return verdict[i];
                case 3:
                    return cites[i];
                case 4:
                    return how[i];
                case 5:
                    return marks[i];
                default:
                    return citations(i, 1) + citations(i, -1);
            }
        }

        int citations(int i, int sign) {
            int number = 0;
            for (int j = 0; j < size; j++) {
                number += cites[j] == i && how[j] == sign ? 1 : 0;
            }
            return number;
        }

        int dependsOn(int i) {
            int number = 0;
            int cited = has(i) ? cites[i] : NONE;
            while (has(cited) && number < RULINGS) {
                number++;
                cited = cites[cited];
            }
            return number;
        }

        int ofDay(int itsDay) {
            int set = 0;
            for (int i = 0; i < size; i++) {
                set |= day[i] == itsDay ? 1 << i : 0;
            }
            return set;
        }

        int othersOfItsDay(int i) {
            return ofDay(day[i]) & ~(1 << i);
        }

        int laterThan(int last) {
            int set = 0;
            for (int i = 0; i < size; i++) {
                set |= day[i] > last ? 1 << i : 0;
            }
            return set;
        }

        int countOf(int what) {
            int number = 0;
            for (int i = 0; i < size; i++) {
                boolean counts = what == 0
                        || what == 1 && how[i] != 0
                        || what == 2 && how[i] < 0
                        || what == 3 && isOfKind(kind[i], BOUND)
                        || what == 4 && isOfKind(kind[i], FIRM);
                number += counts ? 1 : 0;
            }
            return number;
        }

        int likeness(int i, int caseMarks, int counted) {
            int both = marks[i] & caseMarks & counted;
            int alone = (marks[i] ^ caseMarks) & counted;
            return 2 * Integer.bitCount(both) - Integer.bitCount(alone);
        }

        /** The VERDICT of a CASE by a set, as if the counted MARKS were all that there are. */
        int decide(int caseMarks, int set, int counted) {
            int likest = NONE;
            int best = 0;
            for (int i = 0; i < size; i++) {
                if (holds(set, i)) {
                    int likeness = likeness(i, caseMarks, counted);
                    boolean better = likest < 0 || likeness > best || likeness == best && day[i] >= day[likest];
                    if (better) {
                        likest = i;
                        best = likeness;
                    }
                }
            }
            return has(likest) ? verdict[likest] : 0;
        }

        /** The VERDICTS of all CASES by a set, a bit each. */
        int verdictsBy(int set) {
            int verdicts = 0;
            for (int c = 0; c < CASES; c++) {
                verdicts |= decide(c, set, EVERY_MARK) << c;
            }
            return verdicts;
        }

        boolean agrees(int set, int verdicts) {
            for (int c = 0; c < CASES; c++) {
                if (decide(c, set, EVERY_MARK) != (verdicts >>> c & 1)) {
                    return false;
                }
            }
            return true;
        }
    }

    /** Reads a TEXT into a draft, so that a TEXT with a FAULT leaves the COURT as it is. */
    private static final class Reader {
        final Court draft = new Court();
        private Row source = new Row(0);
        private int place = 0;

        /** The FAULT, or NONE. One more item than there may be is tried, as its letter is the FAULT then. */
        int read(Row text) {
            source = text;
            place = 0;
            draft.cutTo(0);
            for (int item = 0; item <= RULINGS; item++) {
                skipBlanks();
                if (place >= source.size) {
                    return NONE;
                }
                if (!readItem()) {
                    return place;
                }
            }
            return place;
        }

        private void skipBlanks() {
            while (place < source.size && source.value(place) == BLANK) {
                place++;
            }
        }

        /** Goes on over an item, or stays at the place at which it can't. */
        private boolean readItem() {
            int kind = letter();
            if (kind < 0 || draft.size >= RULINGS) {
                return false;
            }
            place++;
            int day = figure();
            if (day < 0) {
                return false;
            }
            place++;
            int verdict = figure();
            if (!within(verdict, 2)) {
                return false;
            }
            place++;
            int how = sign() == PLUS ? 1 : sign() == MINUS ? -1 : 0;
            int cites = NONE;
            if (how != 0) {
                place++;
                cites = figure();
                if (!draft.canBeCited(cites, day)) {
                    return false;
                }
                place++;
            }
            if (sign() != DOT) {
                return false;
            }
            place++;
            draft.add(kind, day, verdict, cites, how, readMarks());
            return true;
        }

        private int sign() {
            return source.value(place);
        }

        private int letter() {
            for (int kind = 0; kind < KINDS; kind++) {
                if (sign() == LETTERS[kind]) {
                    return kind;
                }
            }
            return -1;
        }

        private int figure() {
            int figure = sign() - FIGURE;
            return within(figure, 10) ? figure : -1;
        }

        private int readMarks() {
            int set = 0;
            for (int mark = 0; mark < MARKS; mark++) {
                if (sign() == FIGURE + mark) {
                    set |= 1 << mark;
                    place++;
                }
            }
            return set;
        }
    }

    /** A COURT as sets of bits, which may be changed to ask what would be. */
    private static final class Bench {
        final int[] kind = new int[RULINGS];
        final int[] against = new int[RULINGS];
        final int[] inFavour = new int[RULINGS];
        final int[] cited = new int[RULINGS];
        final int[] sameDay = new int[RULINGS];
        /** How many more, of a DAY behind all, CITE each AGAINST: none CITES those, so they STAND. */
        final int[] filed = new int[RULINGS];
        /** RULINGS left out, or not told yet: they FALL. */
        int absent = 0;
        int size = 0;

        void seat(Court court) {
            size = court.size;
            absent = 0;
            for (int i = 0; i < size; i++) {
                kind[i] = court.kind[i];
                against[i] = 0;
                inFavour[i] = 0;
                cited[i] = 0;
                sameDay[i] = court.othersOfItsDay(i);
                filed[i] = 0;
            }
            for (int i = 0; i < size; i++) {
                int c = court.cites[i];
                if (within(c, size)) {
                    cited[i] = 1 << c;
                    against[c] |= court.how[i] < 0 ? 1 << i : 0;
                    inFavour[c] |= court.how[i] > 0 ? 1 << i : 0;
                }
            }
        }

        void forgetCitation(int i) {
            for (int c = 0; c < size; c++) {
                against[c] &= ~(1 << i);
                inFavour[c] &= ~(1 << i);
            }
            if (within(i, size)) {
                cited[i] = 0;
            }
        }

        /** False, if one is FILED for nothing: a shorter row, which was tried ahead, does the same then. */
        boolean fileAgainst(int[] row, int n) {
            for (int i = 0; i < size; i++) {
                filed[i] = 0;
            }
            for (int k = 0; k < n && k < row.length; k++) {
                int c = row[k];
                if (!within(c, size) || !isMovedByOneMore(c)) {
                    return false;
                }
                filed[c]++;
            }
            return true;
        }

        private boolean isMovedByOneMore(int i) {
            return kind[i] != ROCK && filed[i] < (kind[i] == FIRM ? 2 : 1);
        }

        boolean isToStand(int i, int set) {
            if (holds(absent, i)) {
                return false;
            }
            int opposed = Integer.bitCount(against[i] & set) + filed[i];
            switch (kind[i]) {
                case BOUND:
                    return opposed == 0 && (cited[i] & ~set) == 0;
                case FIRM:
                    return opposed < 2;
                case RUMOUR:
                    return opposed == 0 && (inFavour[i] & set) != 0;
                case CHAINED:
                    return opposed == 0 && (cited[i] & ~set) == 0 && (sameDay[i] & set) != 0;
                case ROCK:
                    return true;
                default:
                    return opposed == 0;
            }
        }

        /**
         * 0 for a WAY. Else the lowest bit that matters to a RULING whose due is not what it does:
         * every set with the same bits from that one on is no WAY either.
         */
        int clash(int set) {
            for (int i = size - 1; i >= 0; i--) {
                if (isToStand(i, set) != holds(set, i)) {
                    int mattering = mattersTo(i);
                    return mattering & -mattering;
                }
            }
            return 0;
        }

        /** Those that CITE one are of higher numbers, so they need not be named. */
        private int mattersTo(int i) {
            int set = 1 << i;
            if (isOfKind(kind[i], BOUND)) {
                set |= cited[i];
            }
            if (kind[i] == CHAINED) {
                set |= sameDay[i];
            }
            return set;
        }
    }

    /** The WAYS of a bench, by the set as a number. */
    private static final class Ways {
        final int[] sets = new int[1 << RULINGS];
        int number = 0;
        private int inEach = 0;
        private int inSome = 0;
        private int every = 0;

        void find(Bench bench) {
            every = (1 << bench.size) - 1;
            number = 0;
            inEach = every;
            inSome = 0;
            for (int set = 0; set <= every; set++) {
                int clash = bench.clash(set);
                if (clash > 0) {
                    // Bits are only ever put in, so that the counter never goes back.
                    set |= clash - 1;
                } else if (number < sets.length) {
                    sets[number] = set;
                    number++;
                    inEach &= set;
                    inSome |= set;
                }
            }
        }

        int first() {
            return number == 0 ? NONE : sets[0];
        }

        int surelyStanding() {
            return number == 0 ? 0 : inEach;
        }

        int surelyFalling() {
            return number == 0 ? 0 : every & ~inSome;
        }

        int waysWith(int i) {
            int with = 0;
            for (int w = 0; w < number; w++) {
                with += sets[w] >> i & 1;
            }
            return with;
        }

        boolean meets(int goal, int i) {
            if (goal == TO_SETTLE) {
                return number == 1;
            }
            return holds(goal == TO_STAND ? surelyStanding() : surelyFalling(), i);
        }
    }
}
