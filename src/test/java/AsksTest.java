/** Promises 9 to 36: what is asked of a state, by hand-made answers. */
public final class AsksTest {
    private static final String FOUR =
        "town 10 6 4;town 9 4 3;town 8 4 2;town 20 5 6;road 0 1;road 1 2;road 2 3;";

    public static void main(String[] args) {
        tellings();
        woulds();
        moves();
        votes();
        turns();
        swings();
        gifts();
        roads();
        drifts();
        commas();
        odds();
        speaks();
        breads();
        halves();
        terms();
        Check.end();
    }

    private static void tellings() {
        CommaState x = Check.of(FOUR);
        int[] told = {4, 3, 0, 0, 1, 1, 47, 19, 0, 0, 15};
        for (int what = 0; what < told.length; what++) {
            Check.due("told " + what, x.told(what), told[what]);
        }
        Check.bad("told 11", () -> x.told(11));
        Check.bad("told -1", () -> x.told(-1));
        int[] second = {9, 4, 3, 1, 5, 0, 1};
        for (int what = 0; what < second.length; what++) {
            Check.due("town 1 " + what, x.town(1, what), second[what]);
        }
        Check.noSuch("town 4", () -> x.town(4, 0));
        Check.noSuch("town 4 ahead of what", () -> x.town(4, 9));
        Check.noSuch("town -1", () -> x.town(-1, 0));
        Check.bad("town what 7", () -> x.town(3, 7));
        Check.bad("town what -1", () -> x.town(3, -1));
        Check.due("road", x.road(1, 0), 1);
        Check.due("road", x.road(1, 1), 2);
        Check.noSuch("road 3", () -> x.road(3, 0));
        Check.noSuch("road 3 ahead of what", () -> x.road(3, 2));
        Check.noSuch("road -1", () -> x.road(-1, 0));
        Check.bad("road what 2", () -> x.road(2, 2));
        Check.due("seats 0", x.seats(0), 4);
        Check.due("seats 1", x.seats(1), 9);
        Check.due("seats 2", x.seats(2), 2);
        Check.bad("seats 3", () -> x.seats(3));
        Check.due("sides 0", x.sides(0), 1);
        Check.due("sides 1", x.sides(1), 10);
        Check.due("sides 2", x.sides(2), 4);
        Check.bad("sides -1", () -> x.sides(-1));
        Check.due("margin", x.margin(), -5);
        Check.due("status 0", x.status(0), 6);
        Check.due("status 1", x.status(1), 7);
        Check.due("road as told", Check.of("town 1 1 1;town 1 1 1;road 1 0;").road(0, 0), 1);
    }

    private static void woulds() {
        CommaState x = new CommaState();
        Check.law(x, "voters - breathe");
        Check.due("more breathe than vote", x.would(1, 5, 1, 0, 0, 0, 0, 0, 0, 0), -4);
        Check.due("edges above", x.would(999, 999, 9, 1, 1, 7, 999, 1, 7, 400), 0);
        Check.bad("voters", () -> x.would(1000, 0, 1, 0, 0, 0, 0, 0, 0, 0));
        Check.bad("voters", () -> x.would(-1, 0, 1, 0, 0, 0, 0, 0, 0, 0));
        Check.bad("breathe", () -> x.would(0, 1000, 1, 0, 0, 0, 0, 0, 0, 0));
        Check.bad("breathe", () -> x.would(0, -1, 1, 0, 0, 0, 0, 0, 0, 0));
        Check.bad("seats", () -> x.would(0, 0, 0, 0, 0, 0, 0, 0, 0, 0));
        Check.bad("seats", () -> x.would(0, 0, 10, 0, 0, 0, 0, 0, 0, 0));
        Check.bad("comma", () -> x.would(0, 0, 1, 2, 0, 0, 0, 0, 0, 0));
        Check.bad("comma", () -> x.would(0, 0, 1, -1, 0, 0, 0, 0, 0, 0));
        Check.bad("school", () -> x.would(0, 0, 1, 0, 2, 0, 0, 0, 0, 0));
        Check.bad("near", () -> x.would(0, 0, 1, 0, 0, 8, 0, 0, 0, 0));
        Check.bad("near", () -> x.would(0, 0, 1, 0, 0, -1, 0, 0, 0, 0));
        Check.bad("votes", () -> x.would(0, 0, 1, 0, 0, 0, 1000, 0, 0, 0));
        Check.bad("in", () -> x.would(0, 0, 1, 0, 0, 0, 0, 2, 0, 0));
        Check.bad("town", () -> x.would(0, 0, 1, 0, 0, 0, 0, 0, 8, 0));
        Check.bad("year", () -> x.would(0, 0, 1, 0, 0, 0, 0, 0, 0, 401));
        Check.bad("year", () -> x.would(0, 0, 1, 0, 0, 0, 0, 0, 0, -1));
        Check.due("each refused once", x.status(1), 16);
    }

    private static int can(CommaState x, int from, int to, int n) {
        return x.can(from, to, n) ? 1 : 0;
    }

    private static void moves() {
        CommaState x = Check.of("town 5 5 1;town 9 2 1;town 99 99 1;town 1 0 1;");
        Check.due("can", can(x, 0, 1, 4), 1);
        Check.due("one must stay", can(x, 0, 1, 5), 0);
        Check.due("who breathe alone", can(x, 1, 0, 3), 0);
        Check.due("n 0", can(x, 0, 1, 0), 0);
        Check.due("n -1", can(x, 0, 1, -1), 0);
        Check.due("n 98", can(x, 2, 1, 98), 1);
        Check.due("n 99", can(x, 2, 1, 99), 0);
        Check.due("one town", can(x, 2, 2, 1), 0);
        Check.noSuch("from", () -> can(x, 4, 0, 1));
        Check.noSuch("to", () -> can(x, 0, -1, 1));
        Check.noSuch("ahead of n", () -> can(x, 0, 4, 0));
        Check.due("most", x.most(0, 1), 4);
        Check.due("most who breathe", x.most(1, 0), 2);
        Check.due("most of many", x.most(2, 0), 98);
        Check.due("most of none", x.most(3, 0), 0);
        Check.due("most of one town", x.most(2, 2), 0);
        Check.noSuch("most from", () -> x.most(-1, 0));
        Check.noSuch("most to", () -> x.most(0, 4));
        CommaState y = Check.of("town 99 99 1;town 99 99 1;town 99 99 1;");
        Check.work(y, "move 0 1 50;");
        Check.due("n above 99", can(y, 1, 0, 100), 0);
        Check.due("n 99 of 149", can(y, 1, 0, 99), 1);
        Check.due("most at one move", y.most(1, 0), 99);
    }

    private static void votes() {
        CommaState x = Check.of(FOUR);
        Check.due("now", x.ahead(0, 0), 19);
        Check.due("in now", x.ahead(0, 1), 1);
        Check.due("seats now", x.ahead(0, 2), 4);
        Check.due("one", x.ahead(1, 0), 23);
        Check.due("in then", x.ahead(1, 1), 0);
        Check.due("seats then", x.ahead(1, 2), 9);
        Check.due("99", x.ahead(99, 0), 47);
        Check.due("nothing stays", x.told(7), 19);
        Check.due("no votes", x.told(3), 0);
        Check.bad("100", () -> x.ahead(100, 0));
        Check.bad("-1", () -> x.ahead(-1, 0));
        Check.bad("what 3", () -> x.ahead(0, 3));
        Check.due("till 1", x.till(1), 0);
        Check.due("till 0", x.till(0), 1);
        Check.bad("till 2", () -> x.till(2));
        CommaState y = Check.of("town 99 0 1;");
        Check.law(y, "(votes%2)");
        Check.due("50 at the 100th", y.till(0), -1);
        Check.law(y, "(votes+1)%2");
        Check.due("50 at the 99th", y.till(0), 99);
    }

    private static void turns() {
        CommaState x = Check.of(FOUR);
        Check.due("turn 0", x.turn(0, 0), 1);
        Check.due("by", x.turn(0, 1), 2);
        Check.due("turn 1", x.turn(1, 0), 0);
        Check.due("by none", x.turn(1, 1), 0);
        CommaState y = Check.of("town 10 9 5;town 4 3 1;town 5 5 1;town 4 2 2;");
        Check.due("1 by its half and two", y.turn(1, 0), 5);
        Check.due("by the first", y.turn(1, 1), 1);
        CommaState z = Check.of("town 4 2 1;town 4 2 1;");
        Check.due("of alike ones the least bits", z.turn(1, 1), 1);
        Check.due("one of half", z.turn(1, 0), 1);
        Check.due("nothing", z.turn(0, 0), 1);
        CommaState u = Check.of("town 99 0 1;");
        Check.due("50 of 99", u.turn(0, 0), 50);
        CommaState v = Check.of("town 98 98 1;");
        Check.due("50 of 98", v.turn(1, 0), 50);
        CommaState w = Check.of("town 1 1 1;town 1 1 1;town 1 1 1;town 1 1 1;town 1 1 1;");
        Check.due("3 of 5", w.turn(1, 0), 3);
        Check.due("the first three", w.turn(1, 1), 7);
        Check.bad("party 2", () -> w.turn(2, 0));
        Check.bad("what 2", () -> w.turn(0, 2));
    }

    private static void swings() {
        CommaState x = Check.of("town 1 1 4;town 1 1 3;town 1 1 2;town 1 1 1;");
        Check.due("swing 4", x.swing(0), 5);
        Check.due("swing 3", x.swing(1), 3);
        Check.due("swing 2", x.swing(2), 3);
        Check.due("swing 1", x.swing(3), 1);
        Check.noSuch("swing 4", () -> x.swing(4));
        Check.due("alone", Check.of("town 1 1 1;").swing(0), 1);
    }

    private static void gifts() {
        CommaState x = Check.of("town 60 0 1;town 30 0 1;town 20 0 1;town 30 0 1;");
        int[][] want = {{0, 0, 0, 0}, {1, 0, 0, 0}, {2, 0, 0, 0}, {2, 1, 0, 0}, {2, 1, 0, 1}, {3, 1, 0, 1}, {3, 1, 1, 1}};
        for (int n = 0; n < want.length; n++) {
            for (int t = 0; t < 4; t++) {
                Check.due("given " + t + " of " + n, x.given(t, n), want[n][t]);
            }
        }
        int sum = 0;
        for (int t = 0; t < 4; t++) {
            sum += x.given(t, 99);
        }
        Check.due("all 99", sum, 99);
        Check.noSuch("given 4", () -> x.given(4, 100));
        Check.bad("given 100", () -> x.given(0, 100));
        Check.bad("given -1", () -> x.given(0, -1));
    }

    private static void roads() {
        CommaState x = Check.of("town 1 1 1;town 1 1 1;town 1 1 1;town 1 1 1;town 1 1 1;town 1 1 1;"
            + "road 0 1;road 1 2;road 0 3;road 3 2;road 2 4;");
        Check.due("parts", x.parts(), 2);
        Check.due("bridges", x.bridges(), 16);
        Check.due("least bits of two ways", x.league(5), 7);
        Check.due("long way", x.league(17), 23);
        Check.due("told ones count", x.league(8 + 16), 28);
        Check.due("none", x.league(32 + 1), -1);
        Check.due("single", x.league(32), 32);
        Check.due("all but the lone one", x.league(31), 31);
        Check.due("of none", x.league(0), 0);
        Check.bad("bits of no towns", () -> x.league(64));
        Check.bad("below 0", () -> x.league(-1));
        CommaState y = Check.of(FOUR);
        Check.due("a chain's bridges", y.bridges(), 7);
        Check.due("one part", y.parts(), 1);
        Check.due("no roads", Check.of("town 1 1 1;town 1 1 1;town 1 1 1;").parts(), 3);
    }

    private static void drifts() {
        CommaState x = Check.of(FOUR);
        Check.due("all", x.drift(0), 81);
        Check.due("least", x.drift(1), -40);
        Check.due("greatest", x.drift(2), 40);
        Check.due("look", x.look(0), 2);
        Check.due("left", x.look(1), 40);
        Check.book(x, "0 2;");
        Check.due("one", x.drift(0), 1);
        Check.due("it", x.drift(1), -1);
        Check.due("it", x.drift(2), -1);
        Check.due("first of alike ones", x.look(0), 1);
        Check.due("one is left", x.look(1), 1);
        Check.book(x, "3 0;");
        Check.due("above half", x.drift(1), 6);
        Check.due("35", x.drift(0), 35);
        Check.book(x, "3 0;1 1;");
        Check.due("none", x.drift(0), 0);
        Check.due("none", x.drift(1), -41);
        Check.due("none", x.drift(2), -41);
        Check.due("first", x.look(0), 0);
        Check.due("none left", x.look(1), 0);
        Check.book(x, "0 0;1 0;2 0;3 0;");
        Check.due("all in lines", x.look(0), -1);
        Check.due("all in lines", x.look(1), -1);
        Check.bad("drift 3", () -> x.drift(3));
        Check.bad("look 2", () -> x.look(2));
        CommaState y = Check.of("town 99 0 1;town 99 99 1;town 20 0 1;");
        Check.due("parts best", y.look(0), 2);
        Check.due("at the worst", y.look(1), 50);
    }

    private static void commas() {
        CommaState x = new CommaState();
        for (int w = 1; w <= 12; w++) {
            for (int k = 0; k <= 10; k++) {
                for (int g = 1; g <= 9; g++) {
                    Check.due("commas " + w + " " + k + " " + g, x.commas(w, k, g), k == 0 ? 1 : ways(w, k, g));
                }
            }
        }
        Check.due("most", x.commas(30, 10, 1), 20030010);
        Check.bad("w 0", () -> x.commas(0, 0, 1));
        Check.bad("w 31", () -> x.commas(31, 0, 1));
        Check.bad("k -1", () -> x.commas(1, -1, 1));
        Check.bad("k 11", () -> x.commas(1, 11, 1));
        Check.bad("g 0", () -> x.commas(1, 0, 0));
        Check.bad("g 10", () -> x.commas(1, 0, 10));
    }

    /** Each of the parts that k commas make takes g words or more. */
    private static int ways(int words, int k, int g) {
        if (k == 0) {
            return words >= g ? 1 : 0;
        }
        int sum = 0;
        for (int first = g; first < words; first++) {
            sum += ways(words - first, k - 1, g);
        }
        return sum;
    }

    private static void odds() {
        CommaState x = Check.of("town 1 0 1;town 2 0 1;town 3 0 1;town 9 0 1;town 50 0 1;");
        Check.due("1 by 8", x.odds(0, 8, 0) * 100 + x.odds(0, 8, 1), 102);
        Check.due("2 by 8", x.odds(1, 8, 0) * 100 + x.odds(1, 8, 1), 104);
        Check.due("3 by 4", x.odds(2, 4, 0) * 100 + x.odds(2, 4, 1), 532);
        Check.due("9 by 1 above", x.odds(3, 1, 0), (126L * 50625 + 84L * 3375 + 36L * 225 + 9L * 15 + 1) / 2);
        Check.due("9 by 1 below", x.odds(3, 1, 1), 1L << 35);
        Check.due("50 as 9", x.odds(4, 1, 0), x.odds(3, 1, 0));
        Check.due("by 0", x.odds(3, 0, 0), 0);
        Check.due("by 0 below", x.odds(3, 0, 1), 1);
        Check.due("by 16", x.odds(3, 16, 0), 1);
        Check.due("by 16 below", x.odds(3, 16, 1), 1);
        Check.noSuch("town 5", () -> x.odds(5, 17, 2));
        Check.bad("q 17", () -> x.odds(0, 17, 0));
        Check.bad("q -1", () -> x.odds(0, -1, 0));
        Check.bad("part 2", () -> x.odds(0, 0, 2));
    }

    private static void speaks() {
        CommaState x = Check.of("town 2 1 3;town 2 1 5;");
        Check.due("rests", x.speak(1, 0), 2);
        Check.due("first", x.speak(1, 1), 1);
        Check.due("seats", x.speak(1, 2), 8);
        CommaState y = Check.of("town 4 1 9;town 4 3 1;town 4 2 1;");
        // wherever 1 speaks but in town 0, 0 takes that; 1 follows it there, and 0 goes elsewhere
        Check.due("none rest", y.speak(2, 0), 0);
        Check.due("no first", y.speak(2, 1), -1);
        Check.due("no seats", y.speak(2, 2), 0);
        CommaState z = Check.of("town 9 9 2;town 9 0 3;");
        Check.due("nothing moves", z.speak(1, 0), 4);
        Check.due("first of all", z.speak(1, 1), 0);
        Check.due("all seats", z.speak(1, 2), 5);
        Check.bad("d 100", () -> z.speak(100, 0));
        Check.bad("d -1", () -> z.speak(-1, 0));
        Check.bad("what 3", () -> z.speak(0, 3));
    }

    private static void breads() {
        CommaState x = Check.of("town 10 0 1;town 9 0 1;town 8 0 1;town 20 0 1;");
        Check.due("levelled", x.bread(3, 15, 30), 7);
        Check.due("one short", x.bread(3, 15, 31), 7);
        Check.due("8 each", x.bread(0, 15, 32), 8);
        Check.due("beyond the least", x.bread(3, 15, 35), 9);
        Check.due("all", x.bread(3, 15, 47), 20);
        Check.due("all but one", x.bread(3, 15, 46), 19);
        Check.due("much", x.bread(0, 15, 9999), 10);
        Check.due("none", x.bread(0, 15, 3), 0);
        Check.due("not told", x.bread(0, 14, 9999), 0);
        Check.due("no towns", x.bread(0, 0, 5), 0);
        Check.noSuch("town 4", () -> x.bread(4, 99, -1));
        Check.bad("bits", () -> x.bread(0, 16, 0));
        Check.bad("bits", () -> x.bread(0, -1, 0));
        Check.bad("n", () -> x.bread(0, 1, 10000));
        Check.bad("n", () -> x.bread(0, 1, -1));
    }

    private static void halves() {
        CommaState x = Check.of("town 10 7 3;town 9 7 3;town 9 3 2;town 8 0 3;town 8 8 2;");
        Check.due("closest", x.closest(0), 2);
        Check.due("apart", x.closest(1), 3);
        Check.due("safest", x.safest(0), 3);
        Check.due("apart", x.safest(1), 8);
        Check.due("lightest", x.lightest(0), 3);
        Check.due("by seats", x.lightest(1), 2);
        CommaState y = Check.of("town 9 7 3;town 9 2 3;");
        Check.due("closest first", y.closest(0), 0);
        Check.due("safest first", y.safest(0), 0);
        Check.due("lightest first", y.lightest(0), 0);
        Check.bad("closest 2", () -> y.closest(2));
        Check.bad("safest 2", () -> y.safest(2));
        Check.bad("lightest -1", () -> y.lightest(-1));
        CommaState z = new CommaState();
        Check.due("none", z.closest(0) + z.closest(1) + z.safest(0) + z.safest(1) + z.lightest(0) + z.lightest(1), -6);
    }

    private static void terms() {
        // seed 0: 12345 draws 0, then 1103527590 & co, reckoned by hand with 32 bits
        CommaState x = Check.of("town 50 25 1;");
        int seed = 0;
        int sum = 25;
        for (int day = 0; day < 3; day++) {
            seed = seed * 1103515245 + 12345;
            seed = seed * 1103515245 + 12345;
            sum += (seed >>> 16) % 32768 % 7 - 3;
            seed = seed * 1103515245 + 12345;
        }
        Check.due("three days", x.term(0, 0, 3, 0), sum);
        Check.due("no vote yet", x.term(0, 0, 3, 2), 0);
        Check.due("one vote", x.term(0, 0, 4, 2), 1);
        Check.due("24 votes", x.term(0, 0, 96, 2), 24);
        Check.due("the comma flew on each day", x.term(5, 16, 3, 0), x.term(5, 0, 3, 0));
        Check.due("nothing stays", x.told(7), 25);
        CommaState y = Check.of("town 1 1 1;");
        Check.law(y, "1 - in * 0 - votes % 2 * 2");
        Check.due("in and out", y.term(7, 0, 96, 3) > 0 ? 1 : 0, 1);
        Check.bad("q", () -> x.term(0, 17, 1, 0));
        Check.bad("q", () -> x.term(0, -1, 1, 0));
        Check.bad("days", () -> x.term(0, 0, 0, 0));
        Check.bad("days", () -> x.term(0, 0, 97, 0));
        Check.bad("what", () -> x.term(0, 0, 1, 4));
        spans(x);
        CommaState none = new CommaState();
        Check.due("no towns", none.term(3, 16, 96, 0) + none.term(3, 16, 96, 2) + none.term(3, 16, 96, 3), 0);
        Check.due("who is in", none.term(3, 16, 96, 1), 1);
        Check.due("span of none", none.span(3, 20, 16, 96, 0) + none.span(3, 20, 16, 96, 1) + none.span(3, 20, 16, 96, 2), 0);
    }

    private static void spans(CommaState x) {
        int least = 999;
        int greatest = 0;
        int in = 0;
        for (int i = 0; i < 20; i++) {
            int one = x.term(Integer.MAX_VALUE - 9 + i, 3, 40, 0);
            least = Math.min(least, one);
            greatest = Math.max(greatest, one);
            in += 1 - x.term(Integer.MAX_VALUE - 9 + i, 3, 40, 1);
        }
        Check.due("fewest", x.span(Integer.MAX_VALUE - 9, 20, 3, 40, 0), least);
        Check.due("most", x.span(Integer.MAX_VALUE - 9, 20, 3, 40, 1), greatest);
        Check.due("0 in", x.span(Integer.MAX_VALUE - 9, 20, 3, 40, 2), in);
        Check.due("fewest and most differ", least < greatest ? 1 : 0, 1);
        Check.bad("many 0", () -> x.span(0, 0, 0, 1, 0));
        Check.bad("many 21", () -> x.span(0, 21, 0, 1, 0));
        Check.bad("q", () -> x.span(0, 1, 17, 1, 0));
        Check.bad("days", () -> x.span(0, 1, 0, 97, 0));
        Check.bad("what", () -> x.span(0, 1, 0, 1, 3));
    }
}
