import java.util.NoSuchElementException;

/** Each argument of each call at its least and greatest, and just beyond: what is thrown, counted, and left. */
public final class RangesTest {
    interface Asked {
        long answer(CommaState x, int[] a);
    }

    private static final String STATE = "town 9 5 2;town 8 4 3;town 7 2 1;road 0 1;road 1 2;";
    private static final int TOWNS = 3;
    private static final int ROADS = 2;
    private static final int WHOLE = Integer.MIN_VALUE;

    public static void main(String[] args) {
        oneArgument();
        moreArguments();
        would();
        townsAndMore();
        noTowns();
        neverThrow();
        Check.end();
    }

    /** Threes: a good value, the least, the greatest; the first `places` are towns or roads. */
    private static void ranges(String name, Asked call, int places, int... threes) {
        int many = threes.length / 3;
        int[] good = new int[many];
        for (int i = 0; i < many; i++) {
            good[i] = threes[3 * i];
        }
        fine(name, call, good);
        for (int i = 0; i < many; i++) {
            int least = threes[3 * i + 1];
            int greatest = threes[3 * i + 2];
            fine(name, call, with(good, i, least));
            fine(name, call, with(good, i, greatest));
            String want = i < places ? "N" : "I";
            if (least > Integer.MIN_VALUE) {
                refused(name, call, with(good, i, least - 1), want);
                refused(name, call, with(good, i, Integer.MIN_VALUE), want);
            }
            if (greatest < Integer.MAX_VALUE) {
                refused(name, call, with(good, i, greatest + 1), want);
                refused(name, call, with(good, i, Integer.MAX_VALUE), want);
            }
        }
    }

    private static int[] with(int[] good, int i, int value) {
        int[] all = good.clone();
        all[i] = value;
        return all;
    }

    private static String told(String name, int[] a) {
        StringBuilder text = new StringBuilder(name).append('(');
        for (int i = 0; i < a.length; i++) {
            text.append(i == 0 ? "" : ", ").append(a[i]);
        }
        return text.append(')').toString();
    }

    private static String thrown(CommaState x, Asked call, int[] a) {
        try {
            call.answer(x, a);
            return "nothing";
        } catch (NoSuchElementException e) {
            return "N";
        } catch (IllegalArgumentException e) {
            return "I";
        }
    }

    private static void fine(String name, Asked call, int[] a) {
        CommaState x = Check.of(STATE);
        Check.same(told(name, a) + " throws", thrown(x, call, a), "nothing");
        Check.due(told(name, a) + " is not counted", x.status(0) + x.status(1), 0);
    }

    private static void refused(String name, Asked call, int[] a, String want) {
        CommaState x = Check.of(STATE);
        Check.work(x, "move 0 0 1;vote;");
        Check.feed(x, "fly;");
        String before = Check.shown(x);
        Check.same(told(name, a) + " throws", thrown(x, call, a), want);
        Check.due(told(name, a) + " is counted", x.status(0) * 10 + x.status(1), want.equals("N") ? 10 : 1);
        Check.same(told(name, a) + " changes nothing", Check.shown(x), before);
    }

    private static void oneArgument() {
        ranges("told", (x, a) -> x.told(a[0]), 0, 5, 0, 10);
        ranges("seats", (x, a) -> x.seats(a[0]), 0, 1, 0, 2);
        ranges("sides", (x, a) -> x.sides(a[0]), 0, 1, 0, 2);
        ranges("swing", (x, a) -> x.swing(a[0]), 1, 1, 0, TOWNS - 1);
        ranges("league", (x, a) -> x.league(a[0]), 0, 5, 0, 7);
        ranges("drift", (x, a) -> x.drift(a[0]), 0, 1, 0, 2);
        ranges("look", (x, a) -> x.look(a[0]), 0, 1, 0, 1);
        ranges("closest", (x, a) -> x.closest(a[0]), 0, 1, 0, 1);
        ranges("safest", (x, a) -> x.safest(a[0]), 0, 1, 0, 1);
        ranges("lightest", (x, a) -> x.lightest(a[0]), 0, 1, 0, 1);
        ranges("till", (x, a) -> x.till(a[0]), 0, 1, 0, 1);
        ranges("status", (x, a) -> x.status(a[0]), 0, 1, WHOLE, Integer.MAX_VALUE);
        ranges("count", (x, a) -> x.count(a[0]), 0, 1, WHOLE, Integer.MAX_VALUE);
    }

    private static void moreArguments() {
        ranges("ahead", (x, a) -> x.ahead(a[0], a[1]), 0, 5, 0, 99, 1, 0, 2);
        ranges("turn", (x, a) -> x.turn(a[0], a[1]), 0, 1, 0, 1, 1, 0, 1);
        ranges("commas", (x, a) -> x.commas(a[0], a[1], a[2]), 0, 20, 1, 30, 4, 0, 10, 3, 1, 9);
        ranges("speak", (x, a) -> x.speak(a[0], a[1]), 0, 5, 0, 99, 1, 0, 2);
        ranges("term", (x, a) -> x.term(a[0], a[1], a[2], a[3]), 0,
            5, WHOLE, Integer.MAX_VALUE, 8, 0, 16, 9, 1, 96, 1, 0, 3);
        ranges("span", (x, a) -> x.span(a[0], a[1], a[2], a[3], a[4]), 0,
            5, WHOLE, Integer.MAX_VALUE, 8, 1, 20, 8, 0, 16, 9, 1, 96, 1, 0, 2);
    }

    private static void would() {
        ranges("would", (x, a) -> x.would(a[0], a[1], a[2], a[3], a[4], a[5], a[6], a[7], a[8], a[9]), 0,
            50, 0, 999, 20, 0, 999, 5, 1, 9, 1, 0, 1, 1, 0, 1, 3, 0, 7, 400, 0, 999, 1, 0, 1, 3, 0, 7, 200, 0, 400);
    }

    private static void townsAndMore() {
        int last = TOWNS - 1;
        ranges("town", (x, a) -> x.town(a[0], a[1]), 1, 1, 0, last, 3, 0, 6);
        ranges("road", (x, a) -> x.road(a[0], a[1]), 1, 1, 0, ROADS - 1, 1, 0, 1);
        ranges("can", (x, a) -> x.can(a[0], a[1], a[2]) ? 1 : 0, 2, 1, 0, last, 0, 0, last, 5, WHOLE, Integer.MAX_VALUE);
        ranges("most", (x, a) -> x.most(a[0], a[1]), 2, 1, 0, last, 0, 0, last);
        ranges("given", (x, a) -> x.given(a[0], a[1]), 1, 1, 0, last, 5, 0, 99);
        ranges("odds", (x, a) -> x.odds(a[0], a[1], a[2]), 1, 1, 0, last, 8, 0, 16, 1, 0, 1);
        ranges("bread", (x, a) -> x.bread(a[0], a[1], a[2]), 1, 1, 0, last, 5, 0, 7, 50, 0, 9999);
        // no such town, whatever else is wrong
        refused("town", (x, a) -> x.town(a[0], a[1]), new int[] {3, 7}, "N");
        refused("road", (x, a) -> x.road(a[0], a[1]), new int[] {2, 2}, "N");
        refused("given", (x, a) -> x.given(a[0], a[1]), new int[] {-1, 100}, "N");
        refused("odds", (x, a) -> x.odds(a[0], a[1], a[2]), new int[] {3, 17, 2}, "N");
        refused("bread", (x, a) -> x.bread(a[0], a[1], a[2]), new int[] {3, 8, -1}, "N");
        refused("can", (x, a) -> x.can(a[0], a[1], a[2]) ? 1 : 0, new int[] {3, 3, 0}, "N");
        refused("can", (x, a) -> x.can(a[0], a[1], a[2]) ? 1 : 0, new int[] {0, 3, 0}, "N");
        refused("most", (x, a) -> x.most(a[0], a[1]), new int[] {3, -1}, "N");
    }

    private static void noTowns() {
        CommaState x = new CommaState();
        Check.noSuch("town", () -> x.town(0, 0));
        Check.noSuch("road", () -> x.road(0, 0));
        Check.noSuch("can", () -> x.can(0, 0, 1) ? 1 : 0);
        Check.noSuch("most", () -> x.most(0, 0));
        Check.noSuch("swing", () -> x.swing(0));
        Check.noSuch("given", () -> x.given(0, 1));
        Check.noSuch("odds", () -> x.odds(0, 1, 0));
        Check.noSuch("bread", () -> x.bread(0, 0, 0));
        Check.bad("bits of no towns", () -> x.league(1));
        Check.due("all are counted", x.status(0) * 10 + x.status(1), 81);
        CommaState eight = Check.of("town 1 1 1;".repeat(8));
        Check.due("bits of eight", eight.league(128) + eight.bread(7, 255, 9), 129);
        Check.bad("a ninth bit", () -> eight.league(256));
        Check.bad("a ninth bit", () -> eight.bread(0, 256, 0));
        Check.noSuch("a ninth town", () -> eight.town(8, 0));
        Check.due("town 7", eight.town(7, 0), 1);
    }

    private static void neverThrow() {
        CommaState x = new CommaState();
        Check.due("feed of any numbers", x.feed(Integer.MIN_VALUE, -1, 0, 1, Integer.MAX_VALUE), 20);
        Check.due("undo of none", x.undo(), -1);
        Check.due("restore of none", x.restore(), -1);
        Check.due("parts, bridges and margin of none", x.parts() + x.bridges() + x.margin(), 0);
        Check.due("none counted", x.status(0) + x.status(1), 0);
    }
}
