import java.math.BigInteger;
import java.util.ArrayList;
import java.util.Arrays;
import java.util.HashMap;
import java.util.List;
import java.util.Map;
import java.util.NoSuchElementException;
import java.util.TreeMap;
import java.util.TreeSet;
import java.util.function.ToIntFunction;
import java.util.regex.Matcher;
import java.util.regex.Pattern;

/** A second, plain reading of the document, for ModelTest: slow, with the library, by other ways. */
final class Model {
    private static final class Fault extends RuntimeException {
        private static final long serialVersionUID = 1;
        final int kind;
        final int place;

        Fault(int kind, int place) {
            this.kind = kind;
            this.place = place;
        }
    }

    /** A token and where it begins; the last one is empty, at the length. */
    private static final class Word {
        final String text;
        final int at;

        Word(String text, int at) {
            this.text = text;
            this.at = at;
        }
    }

    private static final class Snap {
        final int[][] people;
        final TreeSet<Integer> parted;
        final int[] rest;

        Snap(int[][] people, TreeSet<Integer> parted, int[] rest) {
            this.people = people;
            this.parted = parted;
            this.rest = rest;
        }

        Snap copy() {
            int[][] p = new int[people.length][];
            for (int i = 0; i < p.length; i++) {
                p[i] = people[i].clone();
            }
            return new Snap(p, new TreeSet<>(parted), rest.clone());
        }
    }

    private static final class Image {
        final Snap snap;
        final List<Snap> works;

        Image(Snap snap, List<Snap> works) {
            this.snap = snap;
            this.works = works;
        }
    }

    private interface Step {
        void act();
    }

    private static final int COMMA = 0;
    private static final int VOTES = 1;
    private static final int IN = 2;
    private static final int YEAR = 3;
    private static final ToIntFunction<Map<String, Integer>> PLAIN = f -> f.get("comma") * 2 - 1;

    private StringBuilder tape = new StringBuilder();
    private int faultPlace = -1;
    private List<Integer> seats = new ArrayList<>();
    private List<int[]> roads = new ArrayList<>();
    private Snap now = new Snap(new int[0][], new TreeSet<>(), new int[] {1, 0, 1, 0});
    private ToIntFunction<Map<String, Integer>> law = PLAIN;
    private Map<Integer, Integer> book = new TreeMap<>();
    private List<Snap> works = new ArrayList<>();
    private List<Image> images = new ArrayList<>();
    private int refusedByWork = 0;
    private int[] thrown = new int[2];
    private int begun;
    private int done;
    private int refused;

    // ---- texts ----

    int feed(int... five) {
        if (tape.length() > 580) {
            return -1;
        }
        for (int n : five) {
            for (byte b : BigInteger.valueOf((n & 0xffffffffL) + (1L << 32)).toByteArray()) {
                tape.append((char) (b & 255));
            }
            tape.deleteCharAt(tape.length() - 5);
        }
        return tape.length();
    }

    private String take(int n, int limit) {
        if (n < 0 || n > limit || n > tape.length()) {
            throw bad();
        }
        String text = tape.substring(0, n);
        tape = new StringBuilder();
        faultPlace = -1;
        return text;
    }

    private IllegalArgumentException bad() {
        thrown[1]++;
        return new IllegalArgumentException();
    }

    private NoSuchElementException noSuch() {
        thrown[0]++;
        return new NoSuchElementException();
    }

    private List<Word> words;
    private int next;

    private void open(String text) {
        words = new ArrayList<>();
        next = 0;
        Matcher m = Pattern.compile("[0-9]+|[a-z]+|(?s:[^ ])").matcher(text);
        while (m.find()) {
            words.add(new Word(m.group(), m.start()));
        }
        words.add(new Word("", text.length()));
    }

    private Word here() {
        return words.get(next);
    }

    private boolean is(String text) {
        return here().text.equals(text);
    }

    private void expect(String text) {
        if (!is(text)) {
            throw new Fault(1, here().at);
        }
        next++;
    }

    private int number(int least, int greatest) {
        if (!here().text.matches("[0-9]+")) {
            throw new Fault(1, here().at);
        }
        BigInteger value = new BigInteger(here().text);
        if (value.compareTo(BigInteger.valueOf(least)) < 0 || value.compareTo(BigInteger.valueOf(greatest)) > 0) {
            throw new Fault(2, here().at);
        }
        next++;
        return value.intValue();
    }

    private int failed(Fault f) {
        faultPlace = f.place;
        return f.kind - 10;
    }

    int state(int n) {
        String text = take(n, 600);
        try {
            open(text);
            readState();
        } catch (Fault f) {
            return failed(f);
        }
        law = PLAIN;
        book = new TreeMap<>();
        works = new ArrayList<>();
        images = new ArrayList<>();
        refusedByWork = 0;
        return seats.size();
    }

    private void readState() {
        List<Integer> newSeats = new ArrayList<>();
        List<int[]> people = new ArrayList<>();
        List<int[]> newRoads = new ArrayList<>();
        int comma = 1;
        for (int clauses = 0; !is(""); clauses++) {
            Word word = here();
            List<String> known = List.of("town", "road", "comma");
            if (!known.contains(word.text)) {
                throw new Fault(1, word.at);
            }
            if (clauses == 60 || is("town") && people.size() == 8 || is("road") && newRoads.size() == 12) {
                throw new Fault(3, word.at);
            }
            next++;
            if (word.text.equals("town")) {
                int v = number(1, 99);
                int b = number(0, v);
                newSeats.add(number(1, 9));
                people.add(new int[] {v, b});
            } else if (word.text.equals("road")) {
                int a = number(0, people.size() - 1);
                int at = here().at;
                int c = number(0, people.size() - 1);
                boolean there = a == c;
                for (int[] r : newRoads) {
                    there |= r[0] == a && r[1] == c || r[0] == c && r[1] == a;
                }
                if (there) {
                    throw new Fault(2, at);
                }
                newRoads.add(new int[] {a, c});
            } else {
                comma = number(0, 1);
            }
            expect(";");
        }
        seats = newSeats;
        roads = newRoads;
        now = new Snap(people.toArray(new int[0][]), new TreeSet<>(), new int[] {comma, 0, 1, 0});
    }

    int law(int n) {
        String text = take(n, 150);
        try {
            open(text);
            ToIntFunction<Map<String, Integer>> e = sum(0);
            expect("");
            law = e;
        } catch (Fault f) {
            return failed(f);
        }
        return 1;
    }

    private ToIntFunction<Map<String, Integer>> sum(int open) {
        ToIntFunction<Map<String, Integer>> all = product(open);
        while (is("+") || is("-")) {
            int sign = is("+") ? 1 : -1;
            next++;
            ToIntFunction<Map<String, Integer>> left = all;
            ToIntFunction<Map<String, Integer>> right = product(open);
            all = f -> (int) ((long) left.applyAsInt(f) + (long) sign * right.applyAsInt(f));
        }
        return all;
    }

    private ToIntFunction<Map<String, Integer>> product(int open) {
        ToIntFunction<Map<String, Integer>> all = unit(open);
        while (is("*") || is("/") || is("%")) {
            String sign = here().text;
            next++;
            ToIntFunction<Map<String, Integer>> left = all;
            ToIntFunction<Map<String, Integer>> right = unit(open);
            all = f -> joined(sign, left.applyAsInt(f), right.applyAsInt(f));
        }
        return all;
    }

    private static int joined(String sign, int left, int right) {
        BigInteger a = BigInteger.valueOf(left);
        BigInteger b = BigInteger.valueOf(right);
        if (sign.equals("*")) {
            return a.multiply(b).intValue();
        }
        if (right == 0) {
            return 0;
        }
        return sign.equals("/") ? a.divide(b).intValue() : a.remainder(b).intValue();
    }

    private ToIntFunction<Map<String, Integer>> unit(int open) {
        Word word = here();
        if (word.text.matches("[0-9]+")) {
            int value = number(0, 999);
            return f -> value;
        }
        boolean pair = is("least") || is("most");
        if (is("(") || pair) {
            if (open == 6) {
                throw new Fault(3, word.at);
            }
            next++;
            if (!pair) {
                ToIntFunction<Map<String, Integer>> held = sum(open + 1);
                expect(")");
                return held;
            }
            expect("[");
            ToIntFunction<Map<String, Integer>> one = sum(open + 1);
            expect(",");
            ToIntFunction<Map<String, Integer>> two = sum(open + 1);
            expect("]");
            boolean least = word.text.equals("least");
            return f -> {
                int a = one.applyAsInt(f);
                int b = two.applyAsInt(f);
                return (a < b) == least ? a : b;
            };
        }
        List<String> facts = List.of("voters", "breathe", "seats", "comma", "school", "near", "votes", "in", "town", "year");
        if (!facts.contains(word.text)) {
            throw new Fault(1, word.at);
        }
        next++;
        return f -> f.get(word.text);
    }

    int work(int n) {
        String text = take(n, 150);
        if (works.size() == 16) {
            return -20;
        }
        List<Step> steps;
        try {
            open(text);
            steps = steps(0, "");
        } catch (Fault f) {
            return failed(f);
        }
        works.add(now.copy());
        begun = 0;
        done = 0;
        refused = 0;
        run(steps);
        refusedByWork = refused;
        return done;
    }

    private void run(List<Step> steps) {
        for (Step s : steps) {
            if (begun == 200) {
                return;
            }
            begun++;
            s.act();
        }
    }

    private List<Step> steps(int open, String close) {
        List<Step> all = new ArrayList<>();
        while (!is(close)) {
            all.add(step(open));
            expect(";");
        }
        return all;
    }

    private Step step(int open) {
        Word word = here();
        int towns = seats.size();
        switch (word.text) {
            case "move": {
                next++;
                int a = number(0, towns - 1);
                int c = number(0, towns - 1);
                int n = number(1, 99);
                return () -> count(moved(a, c, n));
            }
            case "school": {
                next++;
                int t = number(0, towns - 1);
                return () -> {
                    if (!now.parted.remove(t)) {
                        now.parted.add(t);
                    }
                    count(true);
                };
            }
            case "fly":
                next++;
                return () -> {
                    now.rest[COMMA] ^= 1;
                    count(true);
                };
            case "vote":
                next++;
                return () -> {
                    vote(now);
                    count(true);
                };
            case "year":
                next++;
                return () -> {
                    boolean fine = now.rest[YEAR] < 400;
                    now.rest[YEAR] += fine ? 1 : 0;
                    count(fine);
                };
            case "again": {
                if (open == 6) {
                    throw new Fault(3, word.at);
                }
                next++;
                int times = number(0, 30);
                expect("[");
                List<Step> held = steps(open + 1, "]");
                expect("]");
                return () -> {
                    for (int i = 0; i < times; i++) {
                        run(held);
                    }
                };
            }
            default:
                throw new Fault(1, word.at);
        }
    }

    private void count(boolean could) {
        done += could ? 1 : 0;
        refused += could ? 0 : 1;
    }

    private boolean moved(int a, int c, int n) {
        if (!can0(a, c, n)) {
            return false;
        }
        for (int i = 0; i < 2; i++) {
            now.people[a][i] -= n;
            now.people[c][i] += n;
        }
        return true;
    }

    private boolean can0(int a, int c, int n) {
        return n >= 1 && n <= 99 && a != c && now.people[a][1] >= n && now.people[a][0] > n && now.people[c][0] + n <= 999;
    }

    int book(int n) {
        String text = take(n, 60);
        try {
            open(text);
            Map<Integer, Integer> lines = new TreeMap<>();
            while (!is("")) {
                int at = here().at;
                int t = number(0, seats.size() - 1);
                if (lines.containsKey(t)) {
                    throw new Fault(2, at);
                }
                lines.put(t, number(0, 2));
                expect(";");
            }
            book = lines;
        } catch (Fault f) {
            return failed(f);
        }
        return book.size();
    }

    int fault() {
        return faultPlace;
    }

    int undo() {
        if (works.isEmpty()) {
            return -1;
        }
        now = works.remove(works.size() - 1);
        refusedByWork = 0;
        return works.size();
    }

    // ---- what is ----

    private static int side(int v, int b) {
        return Integer.compare(v, 2 * b) < 0 ? 0 : Integer.compare(v, 2 * b) > 0 ? 1 : 2;
    }

    private int side(Snap s, int t) {
        return side(s.people[t][0], s.people[t][1]);
    }

    private int seatsOf(Snap s, int party) {
        int sum = 0;
        for (int t = 0; t < seats.size(); t++) {
            if (side(s, t) == party) {
                sum += seats.get(t);
            }
        }
        return sum;
    }

    private TreeSet<Integer> around(int t) {
        TreeSet<Integer> found = new TreeSet<>();
        for (int[] r : roads) {
            if (r[0] == t) {
                found.add(r[1]);
            }
            if (r[1] == t) {
                found.add(r[0]);
            }
        }
        return found;
    }

    private int sway(Snap s, int t) {
        int near = 0;
        for (int other : around(t)) {
            near += side(s, other) == 0 ? 1 : 0;
        }
        return swayBy(s.people[t][0], s.people[t][1], seats.get(t), s.rest[COMMA], s.parted.contains(t) ? 1 : 0, near,
            s.rest[VOTES], s.rest[IN], t, s.rest[YEAR]);
    }

    private int swayBy(int... facts) {
        String[] names = {"voters", "breathe", "seats", "comma", "school", "near", "votes", "in", "town", "year"};
        Map<String, Integer> f = new HashMap<>();
        for (int i = 0; i < 10; i++) {
            f.put(names[i], facts[i]);
        }
        return clamp(law.applyAsInt(f), -99, 99);
    }

    private static int clamp(int value, int least, int greatest) {
        return value < least ? least : value > greatest ? greatest : value;
    }

    private void vote(Snap s) {
        Snap before = s.copy();
        for (int t = 0; t < seats.size(); t++) {
            s.people[t][1] = clamp(before.people[t][1] + sway(before, t), 0, s.people[t][0]);
        }
        s.rest[VOTES]++;
        int a = seatsOf(s, 0);
        int b = seatsOf(s, 1);
        s.rest[IN] = a > b ? 0 : a < b ? 1 : s.rest[IN];
    }

    private static int breathing(Snap s) {
        return Arrays.stream(s.people).mapToInt(p -> p[1]).sum();
    }

    private void ranges(int... threes) {
        for (int i = 0; i < threes.length; i += 3) {
            if (threes[i] < threes[i + 1] || threes[i] > threes[i + 2]) {
                throw bad();
            }
        }
    }

    private void towns(int... all) {
        for (int t : all) {
            if (t < 0 || t >= seats.size()) {
                throw noSuch();
            }
        }
    }

    int told(int what) {
        ranges(what, 0, 10);
        return new int[] {seats.size(), roads.size(), now.rest[YEAR], now.rest[VOTES], now.rest[IN], now.rest[COMMA],
            Arrays.stream(now.people).mapToInt(p -> p[0]).sum(), breathing(now), book.size(), refusedByWork,
            seats.stream().mapToInt(s -> s).sum()}[what];
    }

    int town(int t, int what) {
        towns(t);
        ranges(what, 0, 6);
        int bits = around(t).stream().mapToInt(o -> 1 << o).sum();
        return new int[] {now.people[t][0], now.people[t][1], seats.get(t), side(now, t), bits,
            now.parted.contains(t) ? 1 : 0, sway(now, t)}[what];
    }

    int road(int r, int what) {
        if (r < 0 || r >= roads.size()) {
            throw noSuch();
        }
        ranges(what, 0, 1);
        return roads.get(r)[what];
    }

    int seats(int party) {
        ranges(party, 0, 2);
        return seatsOf(now, party);
    }

    int would(int... f) {
        ranges(f[0], 0, 999, f[1], 0, 999, f[2], 1, 9, f[3], 0, 1, f[4], 0, 1, f[5], 0, 7, f[6], 0, 999, f[7], 0, 1,
            f[8], 0, 7, f[9], 0, 400);
        return swayBy(f);
    }

    int can(int a, int c, int n) {
        towns(a, c);
        return can0(a, c, n) ? 1 : 0;
    }

    int ahead(int n, int what) {
        ranges(n, 0, 99, what, 0, 2);
        Snap s = now.copy();
        for (int i = 0; i < n; i++) {
            vote(s);
        }
        return new int[] {breathing(s), s.rest[IN], seatsOf(s, 0)}[what];
    }

    private static boolean has(int set, int t) {
        return (set & 1 << t) != 0;
    }

    int turn(int party, int what) {
        ranges(party, 0, 1, what, 0, 1);
        int[] best = null;
        for (int set = 0; set < 1 << seats.size() && !seats.isEmpty(); set++) {
            int cost = 0;
            int mine = 0;
            int theirs = 0;
            boolean fine = true;
            for (int t = 0; t < seats.size(); t++) {
                int v = now.people[t][0];
                int b = now.people[t][1];
                int goes = side(v, b);
                if (has(set, t)) {
                    fine &= goes != party;
                    int k = 0;
                    while (side(v, party == 0 ? b + k : b - k) != party) {
                        k++;
                    }
                    cost += k;
                    goes = party;
                }
                mine += goes == party ? seats.get(t) : 0;
                theirs += goes == 1 - party ? seats.get(t) : 0;
            }
            if (fine && mine > theirs && (best == null || cost < best[0])) {
                best = new int[] {cost, set};
            }
        }
        return best == null ? -1 : best[what];
    }

    private int weight(int set) {
        int sum = 0;
        for (int t = 0; t < seats.size(); t++) {
            sum += has(set, t) ? seats.get(t) : 0;
        }
        return sum;
    }

    int swing(int town) {
        towns(town);
        double half = weight(255) / 2.0;
        int found = 0;
        for (int set = 0; set < 1 << seats.size(); set++) {
            found += !has(set, town) && !(weight(set) > half) && weight(set | 1 << town) > half ? 1 : 0;
        }
        return found;
    }

    int given(int town, int n) {
        towns(town);
        ranges(n, 0, 99);
        int[] got = new int[seats.size()];
        for (int i = 0; i < n; i++) {
            int best = -1;
            for (int t = seats.size() - 1; t >= 0; t--) {
                if (best < 0 || now.people[t][0] * (got[best] + 1) >= now.people[best][0] * (got[t] + 1)) {
                    best = t;
                }
            }
            got[best]++;
        }
        return got[town];
    }

    private boolean together(int set, List<int[]> by) {
        int[] of = new int[seats.size()];
        return set == 0 || groups(set, by, of) == 1;
    }

    /** How many groups a set falls into by the roads inside it: labels are merged road by road. */
    private int groups(int set, List<int[]> by, int[] of) {
        for (int t = 0; t < of.length; t++) {
            of[t] = t;
        }
        for (int[] r : by) {
            if (has(set, r[0]) && has(set, r[1])) {
                int old = of[r[0]];
                int fresh = of[r[1]];
                for (int t = 0; t < of.length; t++) {
                    of[t] = of[t] == old ? fresh : of[t];
                }
            }
        }
        TreeSet<Integer> labels = new TreeSet<>();
        for (int t = 0; t < of.length; t++) {
            if (has(set, t)) {
                labels.add(of[t]);
            }
        }
        return labels.size();
    }

    private void bits(int set) {
        ranges(set, 0, (1 << seats.size()) - 1);
    }

    int league(int set) {
        bits(set);
        for (int size = 0; size <= seats.size(); size++) {
            for (int all = 0; all < 1 << seats.size(); all++) {
                if (Integer.bitCount(all) == size && (all & set) == set && together(all, roads)) {
                    return all;
                }
            }
        }
        return -1;
    }

    int parts() {
        return groups((1 << seats.size()) - 1, roads, new int[seats.size()]);
    }

    int bridges() {
        int bits = 0;
        for (int i = 0; i < roads.size(); i++) {
            List<int[]> less = new ArrayList<>(roads);
            less.remove(i);
            if (groups((1 << seats.size()) - 1, less, new int[seats.size()]) > parts()) {
                bits |= 1 << i;
            }
        }
        return bits;
    }

    private int sideBy(int t, int d) {
        return side(now.people[t][0], clamp(now.people[t][1] + d, 0, now.people[t][0]));
    }

    private List<Integer> drifts(Map<Integer, Integer> lines) {
        List<Integer> all = new ArrayList<>();
        for (int d = -40; d <= 40; d++) {
            boolean fits = true;
            for (Map.Entry<Integer, Integer> line : lines.entrySet()) {
                fits &= sideBy(line.getKey(), d) == line.getValue();
            }
            if (fits) {
                all.add(d);
            }
        }
        return all;
    }

    int drift(int what) {
        ranges(what, 0, 2);
        List<Integer> all = drifts(book);
        if (what == 0) {
            return all.size();
        }
        return all.isEmpty() ? -41 : all.get(what == 1 ? 0 : all.size() - 1);
    }

    int look(int what) {
        ranges(what, 0, 1);
        int[] best = null;
        for (int t = 0; t < seats.size(); t++) {
            if (!book.containsKey(t)) {
                int worst = 0;
                for (int p = 0; p < 3; p++) {
                    Map<Integer, Integer> more = new TreeMap<>(book);
                    more.put(t, p);
                    worst = Math.max(worst, drifts(more).size());
                }
                if (best == null || worst < best[1]) {
                    best = new int[] {t, worst};
                }
            }
        }
        return best == null ? -1 : best[what];
    }

    int commas(int w, int k, int g) {
        ranges(w, 1, 30, k, 0, 10, g, 1, 9);
        // ways[j][i]: j commas are set, the latest behind word i
        long[][] ways = new long[k + 1][w + 1];
        ways[0][0] = 1;
        for (int j = 1; j <= k; j++) {
            for (int i = 1; i < w; i++) {
                for (int before = 0; before + g <= i; before++) {
                    ways[j][i] += ways[j - 1][before];
                }
            }
        }
        long sum = k == 0 ? 1 : 0;
        for (int i = 1; k > 0 && i + g <= w; i++) {
            sum += ways[k][i];
        }
        return (int) sum;
    }

    long odds(int town, int q, int part) {
        towns(town);
        ranges(q, 0, 16, part, 0, 1);
        int m = Math.min(9, now.people[town][0]);
        BigInteger above = BigInteger.ZERO;
        for (int who = 0; who < 1 << m; who++) {
            if (2 * Integer.bitCount(who) > m) {
                above = above.add(BigInteger.valueOf(q).pow(Integer.bitCount(who))
                    .multiply(BigInteger.valueOf(16 - q).pow(m - Integer.bitCount(who))));
            }
        }
        BigInteger below = BigInteger.valueOf(16).pow(m);
        BigInteger g = above.gcd(below);
        return (part == 0 ? above : below).divide(g).longValueExact();
    }

    private int[] heard(int a, int c, int d) {
        int[] got = new int[3];
        for (int t = 0; t < seats.size(); t++) {
            int v = now.people[t][0];
            int b = now.people[t][1];
            if (a != c && t == a) {
                b = Math.min(v, b + d);
            }
            if (a != c && t == c) {
                b = Math.max(0, b - d);
            }
            got[side(v, b)] += seats.get(t);
        }
        return got;
    }

    int speak(int d, int what) {
        ranges(d, 0, 99, what, 0, 2);
        int[] out = {0, -1, 0};
        for (int a = 0; a < seats.size(); a++) {
            for (int c = 0; c < seats.size(); c++) {
                int[] got = heard(a, c, d);
                boolean rests = true;
                for (int o = 0; o < seats.size(); o++) {
                    rests &= heard(o, c, d)[0] <= got[0] && heard(a, o, d)[1] <= got[1];
                }
                if (rests && out[0]++ == 0) {
                    out[1] = 10 * a + c;
                    out[2] = got[0] + got[1];
                }
            }
        }
        return out[what];
    }

    int bread(int town, int set, int n) {
        towns(town);
        bits(set);
        ranges(n, 0, 9999);
        if (!has(set, town)) {
            return 0;
        }
        for (int bound = 1000; bound >= 0; bound--) {
            int sum = 0;
            for (int t = 0; t < seats.size(); t++) {
                sum += has(set, t) ? Math.min(bound, now.people[t][0]) : 0;
            }
            if (sum <= n) {
                return Math.min(bound, now.people[town][0]);
            }
        }
        return -99;
    }

    private int half(int what, int sign) {
        ranges(what, 0, 1);
        int[] best = null;
        for (int t = 0; t < seats.size(); t++) {
            int apart = Math.abs(2 * now.people[t][1] - now.people[t][0]);
            if (best == null || sign * apart < sign * best[1]) {
                best = new int[] {t, apart};
            }
        }
        return best == null ? -1 : best[what];
    }

    int closest(int what) {
        return half(what, 1);
    }

    int safest(int what) {
        return half(what, -1);
    }

    int till(int party) {
        ranges(party, 0, 1);
        for (int n = 0; n <= 99; n++) {
            if (ahead(n, 1) == party) {
                return n;
            }
        }
        return -1;
    }

    int most(int a, int c) {
        towns(a, c);
        int n = 99;
        while (n > 0 && !can0(a, c, n)) {
            n--;
        }
        return n;
    }

    int sides(int party) {
        ranges(party, 0, 2);
        int bits = 0;
        for (int t = 0; t < seats.size(); t++) {
            bits += side(now, t) == party ? 1 << t : 0;
        }
        return bits;
    }

    int margin() {
        return seatsOf(now, 0) - seatsOf(now, 1);
    }

    int lightest(int what) {
        ranges(what, 0, 1);
        int best = -1;
        for (int t = 0; t < seats.size(); t++) {
            // fractions of voters below 1000 by seats below 10 differ by 1/81 at least
            double by = (double) now.people[t][0] / seats.get(t);
            if (best < 0 || by < (double) now.people[best][0] / seats.get(best) - 0.001) {
                best = t;
            }
        }
        return best < 0 || what == 0 ? best : now.people[best][0] / seats.get(best);
    }

    private long seed;

    private int draw(int by) {
        seed = (seed * 1103515245L + 12345L) & 0xffffffffL;
        return (int) (seed / 65536 % 32768 % by);
    }

    private int[] termOf(int from, int q, int days) {
        Snap s = now.copy();
        seed = from & 0xffffffffL;
        int held = 0;
        int came = 0;
        for (int day = 0; day < days && !seats.isEmpty(); day++) {
            int t = draw(seats.size());
            int more = draw(7) - 3;
            s.people[t][1] = clamp(s.people[t][1] + more, 0, s.people[t][0]);
            if (draw(16) < q) {
                s.rest[COMMA] = 1 - s.rest[COMMA];
            }
            if (day % 4 == 3) {
                int before = s.rest[IN];
                vote(s);
                held++;
                came += before != s.rest[IN] ? 1 : 0;
            }
        }
        return new int[] {breathing(s), s.rest[IN], held, came};
    }

    int term(int from, int q, int days, int what) {
        ranges(q, 0, 16, days, 1, 96, what, 0, 3);
        return termOf(from, q, days)[what];
    }

    int span(int from, int many, int q, int days, int what) {
        ranges(many, 1, 20, q, 0, 16, days, 1, 96, what, 0, 2);
        List<int[]> all = new ArrayList<>();
        for (int i = 0; i < many; i++) {
            all.add(termOf(from + i, q, days));
        }
        if (what == 2) {
            return (int) all.stream().filter(t -> t[1] == 0).count();
        }
        return what == 0 ? all.stream().mapToInt(t -> t[0]).min().getAsInt() : all.stream().mapToInt(t -> t[0]).max().getAsInt();
    }

    int image() {
        if (images.size() == 3) {
            return -1;
        }
        List<Snap> kept = new ArrayList<>();
        for (Snap s : works) {
            kept.add(s.copy());
        }
        images.add(new Image(now.copy(), kept));
        return images.size();
    }

    int restore() {
        if (images.isEmpty()) {
            return -1;
        }
        Image last = images.remove(images.size() - 1);
        now = last.snap;
        works = last.works;
        refusedByWork = 0;
        return images.size();
    }

    int status(int what) {
        return what == 0 || what == 1 ? thrown[what] : -1;
    }

    int count(int what) {
        return what == 0 ? images.size() : what == 1 ? tape.length() : what == 2 ? works.size() : -1;
    }
}
