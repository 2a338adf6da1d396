/** TERMS by SEEDS: a test for each boundary that a sentence names, by draws reckoned anew here. */
public final class TermBoundsTest {
    private static final int[] SEEDS = {0, 1, 2, 3, 7, 12345, 65535, 65536, -1, -2, -65536, 1 << 30, 1 << 31,
        Integer.MAX_VALUE, Integer.MIN_VALUE + 1, 987654321, -987654321, 20, 21, 22};
    private static long seed;

    public static void main(String[] args) {
        drawsOfOneDay();
        breatheAtLeastNoneAtMostAll();
        townsDrawn();
        commaFliesBelowQ();
        votesBehindEachFourthDay();
        partiesThatCameIn();
        daysAreNoYears();
        nothingStaysChanged();
        withoutTowns();
        spanOfOne();
        spanOfTwenty();
        spanOverTheEnd();
        Check.end();
    }

    private static int draw(int by) {
        seed = (seed * 1103515245L + 12345L) % (1L << 32);
        return (int) (seed % (1L << 31) / (1L << 16) % by);
    }

    private static void sow(int from) {
        seed = from < 0 ? from + (1L << 32) : from;
    }

    private static void drawsOfOneDay() {
        CommaState x = Check.of("town 99 50 1;");
        int least = 9;
        int greatest = -9;
        for (int from : SEEDS) {
            sow(from);
            draw(1);
            int more = draw(7) - 3;
            least = Math.min(least, more);
            greatest = Math.max(greatest, more);
            Check.due("one day of " + from, x.term(from, 0, 1, 0), 50 + more);
        }
        Check.due("3 fewer were drawn", least, -3);
        Check.due("3 more were drawn", greatest, 3);
        // seed 1 becomes 1103527590 = 16838 * 65536 + 32422
        sow(1);
        Check.due("the first draw of seed 1", draw(32768), 16838);
    }

    private static void breatheAtLeastNoneAtMostAll() {
        CommaState none = Check.of("town 99 0 1;");
        CommaState all = Check.of("town 99 99 1;");
        CommaState one = Check.of("town 1 0 1;");
        for (int from : SEEDS) {
            sow(from);
            int low = 0;
            int high = 99;
            int single = 0;
            for (int day = 0; day < 3; day++) {
                draw(1);
                int more = draw(7) - 3;
                draw(16);
                low = Math.max(0, low + more);
                high = Math.min(99, high + more);
                single = Math.max(0, Math.min(1, single + more));
            }
            Check.due("0 at least by " + from, none.term(from, 0, 3, 0), low);
            Check.due("all at most by " + from, all.term(from, 0, 3, 0), high);
            Check.due("both by " + from, one.term(from, 0, 3, 0), single);
        }
    }

    private static void townsDrawn() {
        CommaState x = Check.of("town 99 99 1;town 99 0 1;town 99 50 1;");
        for (int from : SEEDS) {
            sow(from);
            int[] breathe = {99, 0, 50};
            for (int day = 0; day < 3; day++) {
                int town = draw(3);
                breathe[town] = Math.max(0, Math.min(99, breathe[town] + draw(7) - 3));
                draw(16);
            }
            Check.due("three of " + from, x.term(from, 0, 3, 0), breathe[0] + breathe[1] + breathe[2]);
        }
    }

    private static int behindAVote(int from, int q) {
        sow(from);
        int breathe = 50;
        int comma = 1;
        for (int day = 0; day < 4; day++) {
            draw(1);
            breathe += draw(7) - 3;
            comma = draw(16) < q ? 1 - comma : comma;
        }
        return breathe + (comma == 1 ? 20 : -20);
    }

    private static void commaFliesBelowQ() {
        CommaState x = Check.of("town 99 50 1;");
        Check.law(x, "comma*40-20");
        for (int from : new int[] {0, 5, -7, Integer.MAX_VALUE}) {
            for (int q = 0; q <= 16; q++) {
                Check.due("Q " + q + " by " + from, x.term(from, q, 4, 0), behindAVote(from, q));
            }
        }
        // on each day by 16, so four times; never by 0
        Check.due("each day or never", x.term(9, 16, 4, 0), x.term(9, 0, 4, 0));
        Check.due("the comma stands still", x.told(5), 1);
    }

    private static void votesBehindEachFourthDay() {
        CommaState x = Check.of("town 99 50 1;");
        int[] days = {1, 3, 4, 5, 7, 8, 9, 95, 96};
        int[] votes = {0, 0, 1, 1, 1, 2, 2, 23, 24};
        for (int i = 0; i < days.length; i++) {
            Check.due("votes in " + days[i], x.term(3, 8, days[i], 2), votes[i]);
        }
        Check.work(x, "vote;vote;");
        Check.due("votes in it alone", x.term(3, 8, 8, 2), 2);
        Check.law(x, "(votes-1)*20");
        Check.due("the law sees all votes", x.term(0, 0, 4, 0) - x.term(0, 0, 3, 0) >= 17 ? 1 : 0, 1);
    }

    private static void partiesThatCameIn() {
        CommaState x = Check.of("town 9 0 1;");
        // all breathe behind each vote with an even number, none behind the others
        Check.law(x, "(1-votes%2*2)*99");
        Check.due("in behind one", x.term(0, 0, 4, 1), 0);
        Check.due("came in by one", x.term(0, 0, 4, 3), 1);
        Check.due("in behind two", x.term(0, 0, 8, 1), 1);
        Check.due("came in by two", x.term(0, 0, 8, 3), 2);
        Check.due("came in by all", x.term(0, 0, 96, 3), 24);
        Check.due("nobody came in ahead of a vote", x.term(0, 0, 3, 3), 0);
        Check.law(x, "0-99");
        Check.due("1 was in, and stays", x.term(0, 0, 96, 3) * 10 + x.term(0, 0, 96, 1), 1);
        Check.law(x, "99");
        Check.due("0 comes in once", x.term(0, 0, 96, 3) * 10 + x.term(0, 0, 96, 1), 10);
        Check.work(x, "vote;");
        Check.due("0 was in, and stays", x.term(0, 0, 96, 3) * 10 + x.term(0, 0, 96, 1), 0);
    }

    private static void daysAreNoYears() {
        CommaState x = Check.of("town 99 50 1;");
        Check.work(x, "year;year;");
        Check.law(x, "(year-2)*99");
        Check.due("no year goes by", x.term(6, 3, 4, 0), beforeTheVote(6));
    }

    private static int beforeTheVote(int from) {
        sow(from);
        int breathe = 50;
        for (int day = 0; day < 4; day++) {
            draw(1);
            breathe += draw(7) - 3;
            draw(16);
        }
        return breathe;
    }

    private static void nothingStaysChanged() {
        CommaState x = Check.of("town 9 4 1;town 8 4 2;road 0 1;");
        String before = Check.shown(x);
        int first = x.term(11, 9, 96, 0);
        x.span(5, 20, 9, 96, 0);
        Check.same("all is as before", Check.shown(x), before);
        Check.due("the same seed draws the same", x.term(11, 9, 96, 0), first);
    }

    private static void withoutTowns() {
        CommaState x = new CommaState();
        int[] want = {0, 1, 0, 0};
        for (int what = 0; what < want.length; what++) {
            Check.due("term " + what, x.term(4, 16, 96, what), want[what]);
        }
        for (int what = 0; what <= 2; what++) {
            Check.due("span " + what, x.span(4, 20, 16, 96, what), 0);
        }
    }

    private static void spanOfOne() {
        CommaState x = Check.of("town 50 25 1;town 40 20 2;");
        for (int from : SEEDS) {
            int breathe = x.term(from, 5, 17, 0);
            Check.due("fewest of one by " + from, x.span(from, 1, 5, 17, 0), breathe);
            Check.due("most of one by " + from, x.span(from, 1, 5, 17, 1), breathe);
            Check.due("in by one by " + from, x.span(from, 1, 5, 17, 2), 1 - x.term(from, 5, 17, 1));
        }
    }

    private static void span(CommaState x, int from, int many) {
        int fewest = Integer.MAX_VALUE;
        int most = Integer.MIN_VALUE;
        int in = 0;
        for (int i = 0; i < many; i++) {
            int breathe = x.term(from + i, 8, 23, 0);
            fewest = Math.min(fewest, breathe);
            most = Math.max(most, breathe);
            in += x.term(from + i, 8, 23, 1) == 0 ? 1 : 0;
        }
        Check.due("fewest of " + many + " from " + from, x.span(from, many, 8, 23, 0), fewest);
        Check.due("most of " + many + " from " + from, x.span(from, many, 8, 23, 1), most);
        Check.due("in by how many of " + many + " from " + from, x.span(from, many, 8, 23, 2), in);
        Check.yes("these differ", fewest < most && in > 0 && in < many);
    }

    private static void spanOfTwenty() {
        span(Check.of("town 50 25 1;town 40 20 2;"), 0, 20);
        span(Check.of("town 50 25 1;town 40 20 2;"), -1000, 19);
    }

    private static void spanOverTheEnd() {
        span(Check.of("town 50 25 1;town 40 20 2;"), Integer.MAX_VALUE - 9, 20);
    }
}
