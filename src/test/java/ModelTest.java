import java.util.ArrayList;
import java.util.Arrays;
import java.util.List;
import java.util.Random;
import java.util.regex.Matcher;
import java.util.regex.Pattern;

/** All promises: runs of calls by chance, each answered by a slow model that was written from the document alone. */
public final class ModelTest {
    private static final int RUNS = 800;
    /** An object is used for so many calls at most; to write a text, the dearest thing here, takes up to 83 of them. */
    private static final int CALLS = 512, DEAREST = 83;

    public static void main(String[] args) {
        for (int seed = 0; seed < RUNS; seed++) {
            run(seed);
        }
        Check.end();
    }

    private static void run(int seed) {
        Random chance = new Random(seed);
        BackCourt x = new BackCourt();
        Model m = new Model();
        // Most runs have a court from the first call on, as there are not many calls; the others meet a new object.
        int used = seed % 4 == 0 ? 0 : write(x, m, signs(chance), 0);
        for (int k = 0; used + DEAREST <= CALLS; k++) {
            int[] call = call(chance, m);
            if (call[0] == WRITE) {
                used += write(x, m, signs(chance), call[1]);
                continue;
            }
            used += 6;
            long got = ask(x, call);
            long want = ask(m, call);
            String name = "seed " + seed + " call " + k + ": " + NAMES[call[0]] + Arrays.toString(call);
            Check.due(name, got, want);
            Check.due(name + " asked()", x.asked(), m.asked());
            Check.due(name + " upper()", x.upper(), m.upper());
            Check.due(name + " lower()", x.lower(), m.lower());
            Check.due(name + " finding()", x.finding(), m.finding());
            Check.due(name + " digest()", x.digest(), m.digest());
        }
    }

    private static final String[] NAMES = {"row", "lay", "at", "tear", "copy", "mean", "text", "put", "fault", "court",
        "ruling", "mark", "reverse", "marks", "file", "strike", "keep", "on", "due", "ways", "nth", "sure", "odds",
        "together", "till", "flips", "jam", "fell", "guard", "settle", "matter", "judge", "like", "verdict", "surely",
        "freed", "code", "kinds", "forged", "torn", "lots", "count", "findings", "write"};
    private static final int WRITE = 43;

    /** Ranges, a little past what is right at both ends; 'i' a ruling, 's' a set of rulings, 'm' of marks. */
    private static final String[] RANGES = {"rn", "rpv", "rp", "r", "rprpn", "r", "tz", "tqb", "t", "t", "iw", "ik", "iv",
        "im", "kdvch", "i", "o", "o", "s", "", "p", "", "i", "i", "d", "i", "", "ir", "ir", "r", "i", "", "im", "ms", "m",
        "a", "", "is", "s", "ss", "ne", "u", "f", "t"};

    private static int[] call(Random chance, Model m) {
        int f = chance.nextInt(NAMES.length);
        // Searches by trying all are slow in the model.
        if (f >= 27 && f <= 29 && chance.nextInt(3) != 0) {
            f = WRITE;
        }
        String ranges = RANGES[f];
        int[] call = new int[6];
        call[0] = f;
        for (int k = 0; k < ranges.length(); k++) {
            call[k + 1] = number(chance, ranges.charAt(k), m);
        }
        return call;
    }

    private static int number(Random chance, char range, Model m) {
        if (chance.nextInt(60) == 0) {
            int[] odd = {Integer.MIN_VALUE, Integer.MAX_VALUE, -9, -1, 1 << 20};
            return odd[chance.nextInt(odd.length)];
        }
        int n = m.rulings.size();
        switch (range) {
            case 'r': return edged(chance, 6);
            case 'n': return edged(chance, chance.nextInt(8) == 0 ? 41 : 6);
            case 'p': return edged(chance, 6);
            case 'v': return edged(chance, 2);
            case 't': return edged(chance, 4);
            case 'z': return edged(chance, 81);
            case 'q': return edged(chance, 50);
            case 'b': return chance.nextInt(3) == 0 ? chance.nextInt(1000) - 500 : "rbfuck0123456789+-. ".charAt(chance.nextInt(20));
            case 'i': return edged(chance, Math.max(n, 1));
            case 'w': return edged(chance, 7);
            case 'k': return edged(chance, 6);
            case 'm': return edged(chance, 32);
            case 'd': return edged(chance, 10);
            case 'c': return chance.nextInt(2) == 0 ? -9 : chance.nextInt(Math.max(n, 1));
            case 'h': return chance.nextInt(3) - 1;
            case 'o': return edged(chance, 3);
            case 's': return m.someSet(chance, edged(chance, 1 << n));
            case 'a': return edged(chance, 5);
            case 'e': return chance.nextInt();
            case 'u': return edged(chance, 8);
            default: return edged(chance, 6);
        }
    }

    private static int edged(Random chance, int bound) {
        return chance.nextInt(25) == 0 ? (chance.nextBoolean() ? -1 : bound) : chance.nextInt(bound);
    }

    /** Mostly right texts, of rulings of few days, so that they have to do with one another. */
    private static String signs(Random chance) {
        StringBuilder all = new StringBuilder();
        int items = chance.nextInt(10);
        int[] days = new int[10];
        for (int i = 0; i < items && all.length() < 66; i++) {
            days[i] = chance.nextInt(2) == 0 ? Math.min(i, 9) : chance.nextInt(10);
            all.append(" ".repeat(chance.nextInt(3)));
            all.append("rbfuckbbccuc".charAt(chance.nextInt(12))).append(days[i]).append(chance.nextInt(2));
            int cited = i == 0 ? 0 : chance.nextInt(i);
            if (i > 0 && (days[cited] < days[i] || chance.nextInt(20) == 0) && chance.nextInt(5) != 0) {
                all.append(chance.nextBoolean() ? '+' : '-').append(cited);
            }
            all.append('.');
            for (int mark = 0; mark < 5; mark++) {
                all.append(chance.nextInt(3) == 0 ? "" + mark : "");
            }
        }
        if (chance.nextInt(4) == 0 && all.length() > 0) {
            all.setCharAt(chance.nextInt(all.length()), "rbfuck0123456789+-. ".charAt(chance.nextInt(20)));
        }
        return all.substring(0, Math.min(80, all.length()));
    }

    /** How many calls it took. */
    private static int write(BackCourt x, Model m, String signs, int t) {
        int text = Math.max(0, Math.min(3, t));
        x.text(text, signs.length());
        m.text(text, signs.length());
        for (int i = 0; i < signs.length(); i++) {
            x.put(text, i, signs.charAt(i));
            m.put(text, i, signs.charAt(i));
        }
        Check.due("fault of '" + signs + "'", x.fault(text), m.fault(text));
        Check.due("court of '" + signs + "'", x.court(text), m.court(text));
        return signs.length() + 3;
    }

    private static long ask(BackCourt x, int[] c) {
        switch (c[0]) {
            case 0: return x.row(c[1], c[2]);
            case 1: return x.lay(c[1], c[2], c[3]);
            case 2: return x.at(c[1], c[2]);
            case 3: return x.tear(c[1]);
            case 4: return x.copy(c[1], c[2], c[3], c[4], c[5]);
            case 5: return x.mean(c[1]);
            case 6: return x.text(c[1], c[2]);
            case 7: return x.put(c[1], c[2], c[3]);
            case 8: return x.fault(c[1]);
            case 9: return x.court(c[1]);
            case 10: return x.ruling(c[1], c[2]);
            case 11: return x.mark(c[1], c[2]);
            case 12: return x.reverse(c[1], c[2]);
            case 13: return x.marks(c[1], c[2]);
            case 14: return x.file(c[1], c[2], c[3], c[4], c[5]);
            case 15: return x.strike(c[1]);
            case 16: return x.keep(c[1]);
            case 17: return x.on(c[1]);
            case 18: return x.due(c[1]);
            case 19: return x.ways();
            case 20: return x.nth(c[1]);
            case 21: return x.sure();
            case 22: return x.odds(c[1]);
            case 23: return x.together(c[1]);
            case 24: return x.till(c[1]);
            case 25: return x.flips(c[1]);
            case 26: return x.jam();
            case 27: return x.fell(c[1], c[2]);
            case 28: return x.guard(c[1], c[2]);
            case 29: return x.settle(c[1]);
            case 30: return x.matter(c[1]);
            case 31: return x.judge();
            case 32: return x.like(c[1], c[2]);
            case 33: return x.verdict(c[1], c[2]);
            case 34: return x.surely(c[1]);
            case 35: return x.freed(c[1]);
            case 36: return x.code();
            case 37: return x.kinds(c[1], c[2]);
            case 38: return x.forged(c[1]);
            case 39: return x.torn(c[1], c[2]);
            case 40: return x.lots(c[1], c[2]);
            case 41: return x.count(c[1]);
            default: return x.findings(c[1]);
        }
    }

    private static long ask(Model x, int[] c) {
        try {
            return x.answer(NAMES[c[0]], c);
        } catch (Model.Refusal refusal) {
            return refusal.answer;
        }
    }

    /** Lists, sets by trying all, refusals thrown: as unlike the program as can be. */
    private static final class Model {
        static final class Refusal extends RuntimeException {
            private static final long serialVersionUID = 1L;
            final int answer;

            Refusal(int answer) {
                super("refused", null, false, false);
                this.answer = answer;
            }
        }

        static final class Ruling implements Cloneable {
            char letter;
            int day, verdict, cites = -9, how = 0, marks = 0;
            boolean out = false;

            Ruling(char letter, int day, int verdict) {
                this.letter = letter;
                this.day = day;
                this.verdict = verdict;
            }

            Ruling twin() {
                Ruling twin = new Ruling(letter, day, verdict);
                twin.cites = cites;
                twin.how = how;
                twin.marks = marks;
                twin.out = out;
                return twin;
            }
        }

        List<Ruling> rulings = new ArrayList<>();
        final List<List<Ruling>> kept = new ArrayList<>(Arrays.asList(null, null, null));
        final int[][] rows = new int[6][];
        final byte[][] texts = new byte[4][];
        final int[] findings = new int[6];
        int finding = 0, told = 0;
        long upper = 0, lower = 1;

        int asked() { return told; }
        long upper() { return upper; }
        long lower() { return lower; }
        int finding() { return finding; }

        static void bad(boolean is) {
            if (is) {
                throw new Refusal(-1);
            }
        }

        static void refuse(boolean is, int answer) {
            if (is) {
                throw new Refusal(answer);
            }
        }

        void find(boolean is, int f) {
            if (is) {
                finding = f;
                findings[f]++;
                throw new Refusal(-3);
            }
        }

        int someSet(Random chance, int other) {
            List<Integer> ways = ways(rulings);
            return chance.nextBoolean() && !ways.isEmpty() ? ways.get(chance.nextInt(ways.size())) : other;
        }

        void text(int t, int n) {
            texts[t] = new byte[n];
            Arrays.fill(texts[t], (byte) 32);
        }

        void put(int t, int i, int v) { texts[t][i] = (byte) v; }

        int court(int t) {
            try {
                return (int) answer("court", new int[] {9, t});
            } catch (Refusal refusal) {
                return refusal.answer;
            }
        }

        private static final Pattern ITEM = Pattern.compile("([rbfuck])([0-9])([01])(?:([+-])([0-9]))?\\.(0?1?2?3?4?)");

        /** The longest beginning that some going on makes right is found by trying ends. */
        int fault(int t) {
            byte[] b = texts[t];
            StringBuilder s = new StringBuilder();
            for (byte v : b) {
                s.append((char) (v & 255));
            }
            if (parse(s.toString()) != null) {
                return -9;
            }
            for (int end = b.length; end >= 0; end--) {
                if (canGoOn(s.substring(0, end))) {
                    return end;
                }
            }
            return 0;
        }

        private static boolean canGoOn(String start) {
            if (parse(start) != null) {
                return true;
            }
            for (String tail : new String[] {"00.", "0.", ".", "0.", "1.", "2.", "3.", "4.", "5.", "6.", "7.", "8."}) {
                if (parse(start + tail) != null) {
                    return true;
                }
            }
            // A RULING that can't be CITED is a FAULT at its own place, so the sign ahead of it is none.
            return start.matches("(?s).*[a-z][0-9][01][+-]") && parse(start.substring(0, start.length() - 1) + ".") != null;
        }

        static List<Ruling> parse(String s) {
            List<Ruling> all = new ArrayList<>();
            Matcher item = ITEM.matcher(s);
            int place = 0;
            while (true) {
                while (place < s.length() && s.charAt(place) == ' ') {
                    place++;
                }
                if (place == s.length()) {
                    return all;
                }
                if (!item.find(place) || item.start() != place || all.size() == 9) {
                    return null;
                }
                Ruling r = new Ruling(item.group(1).charAt(0), Integer.parseInt(item.group(2)), Integer.parseInt(item.group(3)));
                if (item.group(4) != null) {
                    r.how = item.group(4).equals("+") ? 1 : -1;
                    r.cites = Integer.parseInt(item.group(5));
                    if (r.cites >= all.size() || all.get(r.cites).day >= r.day) {
                        return null;
                    }
                }
                for (char mark : item.group(6).toCharArray()) {
                    r.marks |= 1 << (mark - '0');
                }
                all.add(r);
                place = item.end();
            }
        }

        static boolean stands(int set, int i) { return i >= 0 && (set & (1 << i)) != 0; }

        static boolean isDue(List<Ruling> all, int i, int set) {
            Ruling r = all.get(i);
            if (r.out) {
                return false;
            }
            int pro = 0, con = 0, mates = 0;
            for (int j = 0; j < all.size(); j++) {
                Ruling o = all.get(j);
                if (stands(set, j) && !o.out) {
                    con += o.cites == i && o.how == -1 ? 1 : 0;
                    pro += o.cites == i && o.how == 1 ? 1 : 0;
                    mates += j != i && o.day == r.day ? 1 : 0;
                }
            }
            boolean plain = con == 0;
            boolean bound = plain && (r.cites == -9 || stands(set, r.cites));
            return switch (r.letter) {
                case 'r' -> plain;
                case 'b' -> bound;
                case 'c' -> bound && mates > 0;
                case 'f' -> con <= 1;
                case 'k' -> true;
                default -> pro > 0 && plain;
            };
        }

        static int dues(List<Ruling> all, int set) {
            int due = 0;
            for (int i = 0; i < all.size(); i++) {
                due += isDue(all, i, set) ? 1 << i : 0;
            }
            return due;
        }

        static List<Integer> ways(List<Ruling> all) {
            List<Integer> ways = new ArrayList<>();
            for (int set = 0; set < 1 << all.size(); set++) {
                if (dues(all, set) == set) {
                    ways.add(set);
                }
            }
            return ways;
        }

        /** 1 stands, -1 falls, 0 neither. */
        static int surely(List<Ruling> all, int i) {
            List<Integer> ways = ways(all);
            int in = 0;
            for (int way : ways) {
                in += stands(way, i) ? 1 : 0;
            }
            return ways.isEmpty() ? 0 : in == ways.size() ? 1 : in == 0 ? -1 : 0;
        }

        static List<Ruling> twins(List<Ruling> all) {
            List<Ruling> twins = new ArrayList<>();
            for (Ruling r : all) {
                twins.add(r.twin());
            }
            return twins;
        }

        List<Ruling> without(int outs) {
            List<Ruling> twins = twins(rulings);
            for (int i = 0; i < twins.size(); i++) {
                twins.get(i).out = stands(outs, i);
            }
            return twins;
        }

        List<Ruling> until(int day) {
            int outs = 0;
            for (int i = 0; i < rulings.size(); i++) {
                outs |= rulings.get(i).day > day ? 1 << i : 0;
            }
            return without(outs);
        }

        int changed(int outs) {
            int changed = 0;
            List<Ruling> left = without(outs);
            for (int i = 0; i < rulings.size(); i++) {
                changed += !stands(outs, i) && surely(rulings, i) != surely(left, i) ? 1 : 0;
            }
            return changed;
        }

        static int likeness(int a, int b) {
            int like = 0;
            for (int mark = 0; mark < 5; mark++) {
                boolean in = stands(a, mark), too = stands(b, mark);
                like += in && too ? 2 : in != too ? -1 : 0;
            }
            return like;
        }

        int verdict(int marks, int set, int drop) {
            int best = Integer.MIN_VALUE, verdict = 0;
            for (int i = 0; i < rulings.size(); i++) {
                Ruling r = rulings.get(i);
                int rank = likeness(marks & ~drop, r.marks & ~drop) * 1000 + r.day * 10 + i;
                if (stands(set, i) && rank > best) {
                    best = rank;
                    verdict = r.verdict;
                }
            }
            return verdict;
        }

        /** Tries all rows of filed ones; they are put into the court for true. */
        int fewest(String goal, int i, int r) {
            int n = rulings.size();
            for (int many = 0; many <= 3; many++) {
                int[] row = new int[many];
                for (int k = 0; k < Math.pow(n, many); k++) {
                    boolean rising = true;
                    for (int p = many - 1, rest = k; p >= 0; p--, rest /= n) {
                        row[p] = rest % n;
                        rising &= p == many - 1 || row[p] <= row[p + 1];
                    }
                    if (rising && meets(goal, i, row)) {
                        rows[r] = row;
                        return many;
                    }
                }
            }
            return -9;
        }

        boolean meets(String goal, int i, int[] row) {
            List<Ruling> all = twins(rulings);
            for (int cited : row) {
                Ruling filed = new Ruling('r', 10, 0);
                filed.cites = cited;
                filed.how = -1;
                all.add(filed);
            }
            return switch (goal) {
                case "fell" -> surely(all, i) == -1;
                case "guard" -> surely(all, i) == 1;
                default -> ways(all).size() == 1;
            };
        }

        Ruling ruling(int i) {
            bad(i < 0 || i >= rulings.size());
            return rulings.get(i);
        }

        int set(int set) {
            bad(set < 0 || set >= 1 << rulings.size());
            return set;
        }

        int one(int value) {
            told = value;
            return 1;
        }

        int[] row(int r) {
            bad(r < 0 || r > 5);
            find(rows[r] == null, 1);
            return rows[r];
        }

        byte[] textAt(int t) {
            bad(t < 0 || t > 3);
            find(texts[t] == null, 1);
            return texts[t];
        }

        int detail(int i, int what) {
            Ruling r = rulings.get(i);
            int citers = (int) rulings.stream().filter(o -> o.cites == i).count();
            return new int[] {"rbfuck".indexOf(r.letter), r.day, r.verdict, r.cites, r.how, r.marks, citers}[what];
        }

        int count(int what) {
            bad(what < 0 || what > 7);
            return switch (what) {
                case 0 -> rulings.size();
                case 1 -> (int) rulings.stream().filter(r -> r.cites >= 0).count();
                case 2 -> (int) rulings.stream().filter(r -> r.how == -1).count();
                case 3 -> (int) rulings.stream().filter(r -> "bc".indexOf(r.letter) >= 0).count();
                case 4 -> (int) rulings.stream().filter(r -> "fk".indexOf(r.letter) >= 0).count();
                case 5 -> (int) Arrays.stream(rows).filter(r -> r != null).count();
                case 6 -> (int) Arrays.stream(texts).filter(t -> t != null).count();
                default -> (int) kept.stream().filter(k -> k != null).count();
            };
        }

        long digest() {
            List<Integer> all = new ArrayList<>();
            for (int what = 0; what < 8; what++) {
                all.add(count(what));
            }
            for (int i = 0; i < rulings.size(); i++) {
                for (int what = 0; what < 7; what++) {
                    all.add(detail(i, what));
                }
            }
            kept.forEach(k -> all.add(k == null ? -1 : k.size()));
            for (int[] r : rows) {
                all.add(r == null ? -1 : r.length);
                Arrays.stream(r == null ? new int[0] : r).forEach(all::add);
            }
            for (byte[] t : texts) {
                all.add(t == null ? -1 : t.length);
                for (int i = 0; t != null && i < t.length; i++) {
                    all.add((int) t[i]);
                }
            }
            long h = 17;
            for (int v : all) {
                h = 31 * h + v;
            }
            return h;
        }

        long answer(String name, int[] c) {
            switch (name) {
                case "row":
                    bad(c[1] < 0 || c[1] > 5 || c[2] > 40);
                    find(c[2] < 0, 5);
                    rows[c[1]] = new int[c[2]];
                    return c[2];
                case "lay": {
                    int[] row = row(c[1]);
                    find(c[2] < 0 || c[2] >= row.length, 2);
                    int was = row[c[2]];
                    row[c[2]] = c[3];
                    return one(was);
                }
                case "at":
                    find(row(c[1]).length <= c[2] || c[2] < 0, 2);
                    return one(rows[c[1]][c[2]]);
                case "tear":
                    row(c[1]);
                    rows[c[1]] = null;
                    return 1;
                case "copy": {
                    bad(c[1] < 0 || c[1] > 5 || c[3] < 0 || c[3] > 5);
                    find(c[5] < 0, 5);
                    int[] from = row(c[1]), to = row(c[3]);
                    find(c[2] < 0 || c[4] < 0 || (long) c[2] + c[5] > from.length || (long) c[4] + c[5] > to.length, 2);
                    int[] taken = from.clone();
                    for (int k = 0; k < c[5]; k++) {
                        to[c[4] + k] = taken[c[2] + k];
                    }
                    return 1;
                }
                case "mean": {
                    int[] row = row(c[1]);
                    find(row.length == 0, 4);
                    return one((int) (Arrays.stream(row).asLongStream().sum() / row.length));
                }
                case "text":
                    bad(c[1] < 0 || c[1] > 3 || c[2] > 80);
                    find(c[2] < 0, 5);
                    text(c[1], c[2]);
                    return c[2];
                case "put": {
                    byte[] text = textAt(c[1]);
                    find(c[2] < 0 || c[2] >= text.length, 2);
                    int was = text[c[2]];
                    text[c[2]] = (byte) c[3];
                    return was + 1000;
                }
                case "fault":
                    textAt(c[1]);
                    return fault(c[1]);
                case "court": {
                    byte[] text = textAt(c[1]);
                    List<Ruling> read = parse(new String(text, java.nio.charset.StandardCharsets.ISO_8859_1));
                    refuse(read == null, -4);
                    rulings = read;
                    kept.replaceAll(k -> null);
                    return rulings.size();
                }
                case "ruling":
                    ruling(c[1]);
                    bad(c[2] < 0 || c[2] > 6);
                    return one(detail(c[1], c[2]));
                case "mark":
                    return mark(c[1], c[2]);
                case "reverse": {
                    Ruling r = ruling(c[1]);
                    bad(c[2] != 0 && c[2] != 1);
                    int was = r.verdict;
                    r.verdict = c[2];
                    return was;
                }
                case "marks": {
                    Ruling r = ruling(c[1]);
                    bad(c[2] < 0 || c[2] > 31);
                    int was = r.marks;
                    r.marks = c[2];
                    return was;
                }
                case "file": {
                    bad(c[1] < 0 || c[1] > 5 || c[2] < 0 || c[2] > 9 || c[3] < 0 || c[3] > 1);
                    if (c[4] == -9) {
                        bad(c[5] != 0);
                    } else {
                        bad(ruling(c[4]).day >= c[2] || Math.abs(c[5]) != 1);
                    }
                    refuse(rulings.size() == 9, -2);
                    Ruling r = new Ruling("rbfuck".charAt(c[1]), c[2], c[3]);
                    r.cites = c[4];
                    r.how = c[5];
                    rulings.add(r);
                    return rulings.size() - 1;
                }
                case "strike": {
                    bad(c[1] < 0 || c[1] > rulings.size());
                    int struck = rulings.size() - c[1];
                    rulings = new ArrayList<>(rulings.subList(0, c[1]));
                    return struck;
                }
                case "keep":
                    bad(c[1] < 0 || c[1] > 2);
                    refuse(rulings.isEmpty(), -4);
                    kept.set(c[1], twins(rulings));
                    return rulings.size();
                case "on":
                    bad(c[1] < 0 || c[1] > 2);
                    find(kept.get(c[1]) == null, 1);
                    rulings = twins(kept.get(c[1]));
                    return rulings.size();
                default:
                    return answerOfWays(name, c);
            }
        }

        int mark(int i, int kind) {
            Ruling r = ruling(i);
            bad(kind < 1 || kind > 5);
            find("bfuck".charAt(kind - 1) != r.letter && !(kind == 1 && r.letter == 'c') && !(kind == 2 && r.letter == 'k'), 3);
            int told = 0;
            switch (kind) {
                case 1:
                    for (Ruling o = r; o.cites >= 0; o = rulings.get(o.cites)) {
                        told++;
                    }
                    return told;
                case 2:
                    return (int) rulings.stream().filter(o -> o.cites == i && o.how == -1).count();
                case 3:
                    return (int) rulings.stream().filter(o -> o.cites == i && o.how == 1).count();
                case 4:
                    return (int) rulings.stream().filter(o -> o.day == r.day).count() - 1;
                default:
                    return (int) ways(rulings).stream().filter(w -> stands(w, i)).count();
            }
        }

        long answerOfWays(String name, int[] c) {
            List<Integer> ways = ways(rulings);
            int first = ways.isEmpty() ? -9 : ways.get(0);
            switch (name) {
                case "due":
                    return dues(rulings, set(c[1]));
                case "ways":
                    told = first;
                    return ways.size();
                case "nth":
                    bad(c[1] < 0);
                    find(c[1] >= ways.size(), 4);
                    return ways.get(c[1]);
                case "sure": {
                    int stand = 0;
                    told = 0;
                    for (int i = 0; i < rulings.size(); i++) {
                        stand |= surely(rulings, i) == 1 ? 1 << i : 0;
                        told |= surely(rulings, i) == -1 ? 1 << i : 0;
                    }
                    return stand;
                }
                case "odds": {
                    ruling(c[1]);
                    find(ways.isEmpty(), 4);
                    long in = ways.stream().filter(w -> stands(w, c[1])).count();
                    int by = java.math.BigInteger.valueOf(in).gcd(java.math.BigInteger.valueOf(ways.size())).intValue();
                    upper = in / by;
                    lower = ways.size() / by;
                    return 1;
                }
                case "together": {
                    ruling(c[1]);
                    find(ways.isEmpty(), 4);
                    int alike = 0;
                    for (int i = 0; i < rulings.size(); i++) {
                        int other = i;
                        alike |= ways.stream().allMatch(w -> stands(w, other) == stands(w, c[1])) ? 1 << i : 0;
                    }
                    return alike;
                }
                case "till": {
                    bad(c[1] < 0 || c[1] > 9);
                    List<Integer> then = ways(until(c[1]));
                    told = then.isEmpty() ? -9 : then.get(0);
                    return then.size();
                }
                case "flips": {
                    StringBuilder story = new StringBuilder();
                    for (int day = ruling(c[1]).day; day <= 9; day++) {
                        story.append(new String[] {"F", "", "S"}[surely(until(day), c[1]) + 1]);
                    }
                    return Math.max(0, story.toString().replaceAll("F+", "F").replaceAll("S+", "S").length() - 1);
                }
                case "jam":
                    for (int day = 0; day <= 9; day++) {
                        if (ways(until(day)).isEmpty()) {
                            return day;
                        }
                    }
                    return -9;
                case "fell":
                case "guard":
                    ruling(c[1]);
                    bad(c[2] < 0 || c[2] > 5);
                    return fewest(name, c[1], c[2]);
                case "settle":
                    bad(c[1] < 0 || c[1] > 5);
                    return fewest(name, 0, c[1]);
                case "matter":
                    ruling(c[1]);
                    return changed(1 << c[1]);
                case "judge": {
                    refuse(rulings.isEmpty(), -4);
                    int best = -1, day = -1;
                    for (int d = 0; d <= 9; d++) {
                        int outs = 0;
                        for (int i = 0; i < rulings.size(); i++) {
                            outs |= rulings.get(i).day == d ? 1 << i : 0;
                        }
                        if (outs != 0 && changed(outs) > best) {
                            best = changed(outs);
                            day = d;
                        }
                    }
                    told = best;
                    return day;
                }
                default:
                    return answerOfCases(name, c, ways, first);
            }
        }

        long answerOfCases(String name, int[] c, List<Integer> ways, int first) {
            switch (name) {
                case "like":
                    ruling(c[1]);
                    bad(c[2] < 0 || c[2] > 31);
                    return one(likeness(rulings.get(c[1]).marks, c[2]));
                case "verdict":
                    bad(c[1] < 0 || c[1] > 31);
                    return verdict(c[1], set(c[2]), 0);
                case "surely": {
                    bad(c[1] < 0 || c[1] > 31);
                    find(ways.isEmpty(), 4);
                    told = ways.stream().mapToInt(w -> verdict(c[1], w, 0)).sum();
                    return told == 0 ? 0 : told == ways.size() ? 1 : -9;
                }
                case "freed": {
                    bad(c[1] < 0 || c[1] > 4);
                    find(ways.isEmpty(), 4);
                    int freed = 0;
                    for (int marks = 0; marks < 32; marks++) {
                        freed += verdict(marks, first, 0) == 1 && verdict(marks, first, 1 << c[1]) == 0 ? 1 : 0;
                    }
                    return freed;
                }
                case "code":
                    find(ways.isEmpty(), 4);
                    for (int many = 0; many <= 9; many++) {
                        for (int set = 0; set <= first; set++) {
                            if ((set | first) == first && Integer.bitCount(set) == many && same(set, first)) {
                                told = set;
                                return many;
                            }
                        }
                    }
                    return 99;
                case "kinds": {
                    ruling(c[1]);
                    set(c[2]);
                    int fit = 0;
                    for (int kind = 0; kind < 6; kind++) {
                        List<Ruling> all = twins(rulings);
                        all.get(c[1]).letter = "rbfuck".charAt(kind);
                        fit |= dues(all, c[2]) == c[2] ? 1 << kind : 0;
                    }
                    return fit;
                }
                case "forged": {
                    set(c[1]);
                    int fit = 0;
                    for (int i = 0; i < rulings.size(); i++) {
                        List<Ruling> all = twins(rulings);
                        all.get(i).cites = -9;
                        fit |= rulings.get(i).cites >= 0 && dues(all, c[1]) == c[1] ? 1 << i : 0;
                    }
                    return fit;
                }
                case "torn": {
                    set(c[1]);
                    set(c[2]);
                    List<Integer> fit = ways.stream().filter(w -> (w & c[1]) == (c[2] & c[1])).toList();
                    told = fit.isEmpty() ? -9 : fit.get(0);
                    return fit.size();
                }
                case "lots": {
                    bad(c[1] < 1 || c[1] > 9 || c[2] < 1 || c[2] == Integer.MAX_VALUE);
                    refuse(rulings.size() + c[1] > 9, -2);
                    long number = c[2];
                    for (int k = 0; k < c[1]; k++) {
                        number = number * 48271 % 2147483647;
                        Ruling r = new Ruling("rbfuck".charAt((int) (number % 6)), (int) (number / 8 % 10), (int) (number / 128 % 2));
                        List<Ruling> earlier = rulings.stream().filter(o -> o.day < r.day).toList();
                        if (!earlier.isEmpty()) {
                            r.cites = rulings.indexOf(earlier.get((int) (number / 256 % earlier.size())));
                            r.how = number / 16384 % 2 == 0 ? -1 : 1;
                        }
                        rulings.add(r);
                    }
                    return rulings.size();
                }
                case "count":
                    return count(c[1]);
                default:
                    bad(c[1] < 1 || c[1] > 5);
                    return findings[c[1]];
            }
        }

        boolean same(int set, int way) {
            for (int marks = 0; marks < 32; marks++) {
                if (verdict(marks, set, 0) != verdict(marks, way, 0)) {
                    return false;
                }
            }
            return true;
        }
    }
}
