import java.util.NoSuchElementException;
import java.util.Random;

/** Random runs of at most 512 calls, each answer compared with that of Model. */
public final class ModelTest {
    private static final int RUNS = 1500;
    private static final int KINDS = 39;
    private static final String SIGNS = " ;[](),+-*/%0123456789abcdefghijklmnopqrstuvwxyzA\n";

    private final Random random;
    private final CommaState real = new CommaState();
    private final Model model = new Model();
    private int towns = 0;
    private String latest = "";

    private ModelTest(int seed) {
        random = new Random(seed);
    }

    public static void main(String[] args) {
        int runs = args.length > 0 ? Integer.parseInt(args[0]) : RUNS;
        int from = args.length > 1 ? Integer.parseInt(args[1]) : 0;
        for (int seed = from; seed < from + runs; seed++) {
            String found = new ModelTest(seed).run();
            if (found != null) {
                System.out.println("run " + seed + ": " + found);
            }
            Check.due("run " + seed, found == null ? 0 : 1, 0);
        }
        Check.end();
    }

    private String run() {
        int calls = 0;
        while (calls < 500) {
            String found = null;
            if (random.nextInt(4) == 0) {
                String text = text();
                int kind = latestKind;
                for (int at = 0; at < text.length() && calls < 500; at += 20) {
                    int[] n = block(text, at);
                    found = found == null ? same("feed", real.feed(n[0], n[1], n[2], n[3], n[4]), model.feed(n)) : found;
                    calls++;
                }
                int length = random.nextInt(40) == 0 ? any(700) : text.length();
                latest = text;
                found = found == null ? call(kind, length, 0, 0, 0, 0) : found;
                found = found == null ? same("fault", real.fault(), model.fault()) : found;
                calls += 2;
                towns = model.told(0);
                real.told(0);
            } else {
                int kind = 4 + random.nextInt(KINDS - 4);
                found = call(kind, some(), some(), some(), some(), some());
                calls++;
            }
            if (found != null) {
                return found + " behind " + latest;
            }
        }
        return null;
    }

    private static int[] block(String text, int at) {
        int[] n = new int[5];
        for (int i = 0; i < 20; i++) {
            n[i / 4] = n[i / 4] << 8 | (at + i < text.length() ? text.charAt(at + i) : 0);
        }
        return n;
    }

    private static String same(String what, long got, long want) {
        return got == want ? null : what + " answered " + got + ", due is " + want;
    }

    private int any(int below) {
        return random.nextInt(below);
    }

    private int some() {
        switch (any(12)) {
            case 0: return any(4) - 2;
            case 1: return any(100);
            case 2: return any(1000);
            case 3: return random.nextInt();
            case 4: return any(300);
            default: return any(9);
        }
    }

    private int[] fact(int a, int b, int c) {
        boolean fine = any(4) != 0;
        return fine ? new int[] {any(1000), any(1000), 1 + any(9), any(2), any(2), any(8), any(1000), any(2), any(8), any(401)}
            : new int[] {any(1000), any(1000), c, any(2), a, any(8), any(1000), b, any(9), any(402)};
    }

    private String call(int kind, int a, int b, int c, int d, int e) {
        int n = any(3) == 0 ? a : any(100);
        int q = any(4) == 0 ? b : any(17);
        int[] f = fact(a, b, c);
        long[] got = answer(true, kind, new int[] {a, b, c, d, e, n, q}, f);
        long[] want = answer(false, kind, new int[] {a, b, c, d, e, n, q}, f);
        if (got[0] != want[0] || got[1] != want[1]) {
            return "kind " + kind + " (" + a + ", " + b + ", " + c + ", " + d + ", " + e + "; " + n + ", " + q + ") answered "
                + got[0] + " (" + got[1] + "), due is " + want[0] + " (" + want[1] + ")";
        }
        return null;
    }

    private long[] answer(boolean ofReal, int kind, int[] x, int[] f) {
        try {
            return new long[] {ofReal ? real(kind, x, f) : model(kind, x, f), 0};
        } catch (NoSuchElementException e) {
            return new long[] {0, 1};
        } catch (IllegalArgumentException e) {
            return new long[] {0, 2};
        } catch (RuntimeException e) {
            return new long[] {ofReal ? 1 : 2, 3};
        }
    }

    private long real(int kind, int[] x, int[] f) {
        CommaState s = real;
        int n = x[5];
        int q = x[6];
        switch (kind) {
            case 0: return s.state(x[0]);
            case 1: return s.law(x[0]);
            case 2: return s.work(x[0]);
            case 3: return s.book(x[0]);
            case 4: return s.fault();
            case 5: return x[0] % 2 == 0 ? s.undo() : s.fault();
            case 6: return s.told(x[0]);
            case 7: return s.town(x[0], x[1]);
            case 8: return s.road(x[0], x[1]);
            case 9: return s.seats(x[0]);
            case 10: return s.would(f[0], f[1], f[2], f[3], f[4], f[5], f[6], f[7], f[8], f[9]);
            case 11: return s.can(x[0], x[1], x[2]) ? 1 : 0;
            case 12: return s.ahead(n, x[1]);
            case 13: return s.turn(x[0], x[1]);
            case 14: return s.swing(x[0]);
            case 15: return s.given(x[0], n);
            case 16: return s.league(x[0]);
            case 17: return s.drift(x[0]);
            case 18: return s.look(x[0]);
            case 19: return s.commas(n, x[1], x[2]);
            case 20: return s.odds(x[0], q, x[1]);
            case 21: return s.speak(n, x[1]);
            case 22: return s.bread(x[0], x[1], n * x[2]);
            case 23: return s.closest(x[0]);
            case 24: return s.parts();
            case 25: return s.safest(x[0]);
            case 26: return s.bridges();
            case 27: return s.till(x[0]);
            case 28: return s.most(x[0], x[1]);
            case 29: return s.sides(x[0]);
            case 30: return s.margin();
            case 31: return s.lightest(x[0]);
            case 32: return s.term(x[0], q, n, x[1]);
            case 33: return s.span(x[0], x[2], q, n, x[1]);
            case 34: return s.image();
            case 35: return s.restore();
            case 36: return s.status(x[0]);
            case 37: return s.count(x[0]);
            default: return s.told(9);
        }
    }

    private long model(int kind, int[] x, int[] f) {
        Model s = model;
        int n = x[5];
        int q = x[6];
        switch (kind) {
            case 0: return s.state(x[0]);
            case 1: return s.law(x[0]);
            case 2: return s.work(x[0]);
            case 3: return s.book(x[0]);
            case 4: return s.fault();
            case 5: return x[0] % 2 == 0 ? s.undo() : s.fault();
            case 6: return s.told(x[0]);
            case 7: return s.town(x[0], x[1]);
            case 8: return s.road(x[0], x[1]);
            case 9: return s.seats(x[0]);
            case 10: return s.would(f);
            case 11: return s.can(x[0], x[1], x[2]);
            case 12: return s.ahead(n, x[1]);
            case 13: return s.turn(x[0], x[1]);
            case 14: return s.swing(x[0]);
            case 15: return s.given(x[0], n);
            case 16: return s.league(x[0]);
            case 17: return s.drift(x[0]);
            case 18: return s.look(x[0]);
            case 19: return s.commas(n, x[1], x[2]);
            case 20: return s.odds(x[0], q, x[1]);
            case 21: return s.speak(n, x[1]);
            case 22: return s.bread(x[0], x[1], n * x[2]);
            case 23: return s.closest(x[0]);
            case 24: return s.parts();
            case 25: return s.safest(x[0]);
            case 26: return s.bridges();
            case 27: return s.till(x[0]);
            case 28: return s.most(x[0], x[1]);
            case 29: return s.sides(x[0]);
            case 30: return s.margin();
            case 31: return s.lightest(x[0]);
            case 32: return s.term(x[0], q, n, x[1]);
            case 33: return s.span(x[0], x[2], q, n, x[1]);
            case 34: return s.image();
            case 35: return s.restore();
            case 36: return s.status(x[0]);
            case 37: return s.count(x[0]);
            default: return s.told(9);
        }
    }

    // ---- texts: mostly right ones, some of them spoilt at a place ----

    private int latestKind;

    private String text() {
        int kind = any(10);
        latestKind = kind < 1 || towns == 0 && kind < 6 ? 0 : kind < 4 ? 1 : kind < 8 ? 2 : 3;
        String text;
        switch (latestKind) {
            case 0: text = stateText(); break;
            case 1: text = law(0, 2 + any(3)); break;
            case 2: text = workText(0); break;
            default: text = bookText(); break;
        }
        text = any(5) == 0 ? spoilt(text) : text;
        text = any(5) == 0 ? " " + text + "  " : text;
        int[] limits = {600, 150, 150, 60};
        return text.length() > limits[latestKind] ? text.substring(0, limits[latestKind]) : text;
    }

    private String spoilt(String text) {
        StringBuilder b = new StringBuilder(text);
        int at = any(text.length() + 1);
        switch (any(4)) {
            case 0:
                b.insert(at, SIGNS.charAt(any(SIGNS.length())));
                break;
            case 1:
                b.setLength(at);
                break;
            case 2:
                if (at < text.length()) {
                    b.deleteCharAt(at);
                }
                break;
            default:
                if (at < text.length()) {
                    b.setCharAt(at, any(8) == 0 ? (char) any(256) : SIGNS.charAt(any(SIGNS.length())));
                }
                break;
        }
        return b.toString();
    }

    private String stateText() {
        StringBuilder b = new StringBuilder();
        int many = 1 + any(any(8) == 0 ? 9 : 8);
        int small = any(2) == 0 ? 9 : 99;
        for (int i = 0; i < many; i++) {
            int v = 1 + any(small);
            b.append("town ").append(v).append(' ').append(any(3) == 0 ? v / 2 : any(v + 1)).append(' ').append(1 + any(9)).append(';');
            if (any(6) == 0) {
                b.append("comma ").append(any(2)).append(';');
            }
        }
        boolean[][] there = new boolean[9][9];
        int left = any(15);
        for (int i = 0; i < 3 * left; i++) {
            int a = any(many);
            int c = any(many);
            boolean wrong = any(150) == 0;
            if (wrong || a != c && !there[a][c] && left-- > 0) {
                there[a][c] = true;
                there[c][a] = true;
                b.append("road ").append(a).append(' ').append(c).append(';');
            }
        }
        if (any(20) == 0) {
            b.append("comma 1;".repeat(any(60)));
        }
        return b.toString();
    }

    private String law(int depth, int budget) {
        StringBuilder b = new StringBuilder(unit(depth, budget));
        for (int i = 0; i < budget && any(3) != 0; i++) {
            String[] signs = {"+", "-", "*", "/", "%", " + ", " * "};
            b.append(signs[any(signs.length)]).append(unit(depth, budget - 1));
        }
        return b.toString();
    }

    private String unit(int depth, int budget) {
        String[] facts = {"voters", "breathe", "seats", "comma", "school", "near", "votes", "in", "town", "year"};
        int kind = any(10);
        if (kind < 3) {
            return String.valueOf(any(3) == 0 ? any(1001) : any(10));
        }
        if (kind < 7 || depth > 7) {
            return facts[any(10)];
        }
        if (any(30) == 0) {
            return "(((((".substring(any(4)) + law(depth + 3, 1) + ")))))";
        }
        if (kind < 8) {
            return (any(2) == 0 ? "least[" : "most [") + law(depth + 1, budget / 2) + "," + law(depth + 1, budget / 2) + "]";
        }
        return "(" + law(depth + 1, budget - 1) + ")";
    }

    private String workText(int depth) {
        StringBuilder b = new StringBuilder();
        for (int i = any(6); i >= 0; i--) {
            switch (any(10)) {
                case 0:
                case 1:
                    b.append("move ").append(any(Math.max(1, towns + 1 - any(2)))).append(' ').append(any(Math.max(1, towns))).append(' ').append(1 + any(any(5) == 0 ? 100 : 9));
                    break;
                case 2: b.append("school ").append(any(Math.max(1, towns))); break;
                case 3: b.append("fly"); break;
                case 4: b.append("year"); break;
                case 5:
                case 6:
                    if (depth < 7) {
                        b.append("again ").append(any(any(3) == 0 ? 32 : 4)).append('[').append(any(4) == 0 ? "" : workText(depth + 1)).append(']');
                        break;
                    }
                    b.append("vote");
                    break;
                default: b.append("vote"); break;
            }
            b.append(';');
        }
        return b.toString();
    }

    private String bookText() {
        StringBuilder b = new StringBuilder();
        for (int t = 0; t < towns; t++) {
            if (any(3) == 0) {
                b.append(t).append(' ').append(any(3)).append(';');
            }
        }
        if (any(8) == 0) {
            b.append(any(9)).append(' ').append(any(4)).append(';');
        }
        return b.toString();
    }
}
