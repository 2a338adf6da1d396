/** A LAW and SWAY: a test for each boundary that a sentence names. */
public final class LawBoundsTest {
    // 2 to the 31st, which wraps to the least number
    private static final String LEAST = "(512*512*512*16)";
    private static final String GREATEST = "(512*512*512*16-1)";

    public static void main(String[] args) {
        bytesOfALaw();
        atTheEndNothingMore();
        withoutALaw();
        swayAtLeastAndAtMost();
        numbers0To999();
        eachFactOfItsTown();
        factsAreThoseOfNow();
        nearCountsTownsOfPartyZero();
        signsInTheirOrder();
        valuesWrap();
        cutsAndLeaves();
        byZeroBothAreZero();
        leastAndMost();
        sixOpenAtOneTime();
        seventhOpen();
        faultPlaces();
        wouldEdges();
        Check.end();
    }

    private static int plain(CommaState x) {
        return x.would(900, 800, 7, 1, 0, 6, 500, 1, 5, 333);
    }

    private static void fine(String law, int sway) {
        CommaState x = new CommaState();
        Check.due("law " + law, Check.law(x, law), 1);
        Check.due("no fault of law " + law, x.fault(), -1);
        Check.due("sway by " + law, plain(x), sway);
    }

    private static void faulty(String law, int answer, int place) {
        CommaState x = new CommaState();
        Check.law(x, "17");
        Check.due("law " + law, Check.law(x, law), answer);
        Check.due("fault of law " + law, x.fault(), place);
        Check.due("the law stays behind " + law, plain(x), 17);
    }

    private static void bytesOfALaw() {
        fine("10" + "+1".repeat(74), 84);
        fine(" ".repeat(148) + "42", 42);
        faulty(" ".repeat(150), -9, 150);
        faulty("", -9, 0);
        CommaState x = new CommaState();
        Check.feed(x, "1" + "+0".repeat(79));
        Check.bad("151", () -> x.law(151));
        Check.due("the tape stays", x.count(1), 160);
        Check.due("150 of 160 end behind a sign", x.law(150), -9);
        Check.due("at 150", x.fault(), 150);
        Check.due("the tape is empty then", x.count(1), 0);
        Check.bad("1 of 0", () -> x.law(1));
        Check.bad("-1", () -> x.law(-1));
    }

    private static void atTheEndNothingMore() {
        fine("1  ", 1);
        faulty("1;", -9, 1);
        faulty("1 2", -9, 2);
        faulty("in 2", -9, 3);
        faulty("2in", -9, 1);
        faulty("in2", -9, 2);
        faulty("1)", -9, 1);
        faulty("1]", -9, 1);
        faulty("1,", -9, 1);
        faulty("(1)(1)", -9, 3);
        faulty("least[1,2]most[1,2]", -9, 10);
        faulty("1" + (char) 0, -9, 1);
    }

    private static void withoutALaw() {
        CommaState x = new CommaState();
        Check.due("comma", x.would(0, 0, 1, 1, 0, 0, 0, 0, 0, 0), 1);
        Check.due("none", x.would(0, 0, 1, 0, 0, 0, 0, 0, 0, 0), -1);
        CommaState y = Check.of("town 5 2 1;");
        Check.law(y, "9");
        Check.state(y, "town 5 2 1;comma 0;");
        Check.due("a new state has no law", y.town(0, 6), -1);
    }

    private static void swayAtLeastAndAtMost() {
        fine("98", 98);
        fine("99", 99);
        fine("100", 99);
        fine("999", 99);
        fine("0-98", -98);
        fine("0-99", -99);
        fine("0-100", -99);
        fine(GREATEST, 99);
        fine(LEAST, -99);
        fine("100-1", 99);
        fine("100*2-150", 50);
    }

    private static void numbers0To999() {
        fine("0", 0);
        fine("999-900", 99);
        fine("000999-900", 99);
        faulty("1000", -8, 0);
        faulty("01000", -8, 0);
        faulty("1+4294967296", -8, 2);
        faulty("1+" + "9".repeat(148), -8, 2);
        faulty("0-", -9, 2);
        faulty("-1", -9, 0);
        faulty("+1", -9, 0);
    }

    private static void eachFactOfItsTown() {
        String[] words = {"voters-850", "breathe-750", "seats", "comma", "school", "near", "votes-450", "in", "town", "year-250"};
        int[] want = {50, 50, 7, 1, 0, 6, 50, 1, 5, 83};
        for (int i = 0; i < words.length; i++) {
            fine(words[i], want[i]);
        }
        String[] not = {"voter", "breath", "seat", "commas", "schools", "nears", "vote", "ins", "towns", "years", "i", "move", "again"};
        for (String word : not) {
            faulty(word, -9, 0);
            faulty("1+" + word, -9, 2);
        }
    }

    private static void swayIs(CommaState x, String law, int town, int want) {
        Check.due("law " + law, Check.law(x, law), 1);
        Check.due("town " + town + " by " + law, x.town(town, 6), want);
    }

    private static void factsAreThoseOfNow() {
        CommaState x = Check.of("town 20 12 4;town 9 1 3;comma 0;");
        Check.law(x, "0");
        Check.work(x, "move 0 1 5;school 1;year;year;year;fly;");
        swayIs(x, "voters", 0, 15);
        swayIs(x, "voters", 1, 14);
        swayIs(x, "breathe", 0, 7);
        swayIs(x, "breathe", 1, 6);
        swayIs(x, "seats", 1, 3);
        swayIs(x, "comma", 0, 1);
        swayIs(x, "school", 0, 0);
        swayIs(x, "school", 1, 1);
        swayIs(x, "votes", 0, 0);
        swayIs(x, "in", 0, 1);
        swayIs(x, "town", 0, 0);
        swayIs(x, "town", 1, 1);
        swayIs(x, "year", 0, 3);
        swayIs(x, "5-town*4", 0, 5);
        Check.work(x, "vote;fly;school 1;");
        swayIs(x, "votes", 0, 1);
        swayIs(x, "in", 0, 0);
        swayIs(x, "comma", 0, 0);
        swayIs(x, "school", 1, 0);
    }

    private static void nearCountsTownsOfPartyZero() {
        String star = "road 0 1;road 2 0;road 0 3;road 4 0;road 0 5;road 0 6;road 0 7;";
        CommaState all = Check.of("town 1 0 1;" + "town 1 1 1;".repeat(7) + star);
        swayIs(all, "near", 0, 7);
        swayIs(all, "near", 1, 0);
        CommaState some = Check.of("town 1 1 1;town 2 1 1;town 3 1 1;town 3 2 1;town 1 1 1;town 1 1 1;town 1 0 1;town 2 2 1;road 0 1;road 2 0;road 0 3;road 4 0;");
        swayIs(some, "near", 0, 2);
        swayIs(some, "near", 1, 1);
        swayIs(some, "near", 5, 0);
    }

    private static void signsInTheirOrder() {
        fine("2+3*4", 14);
        fine("2*3+4", 10);
        fine("20-3-4", 13);
        fine("20-(3-4)", 21);
        fine("60/3/4", 5);
        fine("60/(3*4)", 5);
        fine("60/3*4", 80);
        fine("17%10*3", 21);
        fine("3*17%10", 1);
        fine("20-6/3", 18);
        fine("20-7%4+1", 18);
    }

    private static void valuesWrap() {
        fine(LEAST, -99);
        fine(LEAST + "*2", 0);
        fine(LEAST + "*2+5", 5);
        fine(GREATEST + "+1", -99);
        fine(GREATEST + "+1+" + GREATEST, -1);
        fine("0-" + LEAST, -99);
        fine(LEAST + "-1", 99);
        fine(LEAST + "*(0-1)", -99);
        fine(GREATEST + "*" + GREATEST, 1);
        fine("999*999*999*999", -99);
        fine("999*999*999*999%100", -71);
    }

    private static void cutsAndLeaves() {
        fine("7/2", 3);
        fine("(0-7)/2", -3);
        fine("7/(0-2)", -3);
        fine("(0-7)/(0-2)", 3);
        fine("7%3", 1);
        fine("(0-7)%3", -1);
        fine("7%(0-3)", 1);
        fine("(0-7)%(0-3)", -1);
        fine("6%3", 0);
        fine(LEAST + "/(0-1)", -99);
        fine(LEAST + "%(0-1)", 0);
        fine(LEAST + "/1", -99);
    }

    private static void byZeroBothAreZero() {
        fine("7/0", 0);
        fine("7%0", 0);
        fine("0/0", 0);
        fine("0%0", 0);
        fine("5+7/school", 5);
        fine("5+7%school", 5);
        fine(LEAST + "/0", 0);
        fine("(0-7)%(3-3)", 0);
    }

    private static void leastAndMost() {
        fine("least[3,8]", 3);
        fine("least[8,3]", 3);
        fine("most[3,8]", 8);
        fine("most[8,3]", 8);
        fine("least[4,4]", 4);
        fine("most[0-4,0-9]", -4);
        fine("least[0-4,0-9]", -9);
        fine("most[" + LEAST + ",5]", 5);
        fine("least[" + GREATEST + ",5]", 5);
        faulty("least[1]", -9, 7);
        faulty("most[1,2,3]", -9, 8);
        faulty("least(1,2)", -9, 5);
        faulty("most[,2]", -9, 5);
        faulty("most[1,]", -9, 7);
        faulty("most[1,2)", -9, 8);
        faulty("most 1", -9, 5);
    }

    private static void sixOpenAtOneTime() {
        fine("((((((8))))))", 8);
        fine("((((((8))))))-((((((3))))))", 5);
        fine("least[most[least[most[least[most[1,2],3],4],5],6],7]", 6);
        fine("least[1,most[2,(((least[3,4])))]]", 1);
        fine("(((((1)+(1))+(1))+(1))+(1))+(1)", 6);
        fine("1+2*(1+2*(1+2*(1+2*(1+2*(1+2*(1+2*3)))))-230)", 51);
        fine("1-2%most[1-2,9-8%most[1-2,9-8%most[1-2,9-8%most[1-2,9-8%most[1-2,9-8%most[1-2,9-8%7]]]]]]", -1);
    }

    private static void seventhOpen() {
        faulty("(((((((8)))))))", -7, 6);
        faulty("((((((  (8)))))))", -7, 8);
        faulty("((((((least[1,2]))))))", -7, 6);
        faulty("((((((most[1,2]))))))", -7, 6);
        faulty("least[least[least[least[least[least[(1),2],3],4],5],6],7]", -7, 36);
        faulty("most[1,most[1,most[1,most[1,most[1,most[1,(1)]]]]]]", -7, 42);
        faulty("most[1,most[1,most[1,most[1,most[1,most[1,least[1,2]]]]]]]", -7, 42);
        faulty("((((((1)))+((((1))))", -7, 14);
        faulty("((((((least", -7, 6);
        faulty("((((((leas", -9, 6);
        faulty("((((((1(", -9, 7);
        faulty("((((((1000(", -8, 6);
        faulty("((((((x(", -9, 6);
        faulty("((((((", -9, 6);
    }

    private static void faultPlaces() {
        faulty("1++2", -9, 2);
        faulty("1 +  * 2", -9, 5);
        faulty("1+ ", -9, 3);
        faulty("(1", -9, 2);
        faulty("(1+", -9, 3);
        faulty("()", -9, 1);
        faulty("(1]", -9, 2);
        faulty("least", -9, 5);
        faulty("least[", -9, 6);
        faulty("least[1", -9, 7);
        faulty("least[1,", -9, 8);
        faulty("least[1,2", -9, 9);
        faulty("1000+x", -8, 0);
        faulty("x+1000", -9, 0);
        faulty("1^2", -9, 1);
        faulty("1\t", -9, 1);
        faulty("In", -9, 0);
    }

    private static void wouldEdges() {
        String[] words = {"voters", "breathe", "seats", "comma", "school", "near", "votes", "in", "town", "year"};
        int[] least = {0, 0, 1, 0, 0, 0, 0, 0, 0, 0};
        int[] greatest = {999, 999, 9, 1, 1, 7, 999, 1, 7, 400};
        for (int i = 0; i < words.length; i++) {
            CommaState x = new CommaState();
            Check.law(x, words[i] + "%901");
            Check.due("least " + words[i], by(x, least), least[i]);
            Check.due("greatest " + words[i], by(x, greatest), Math.min(99, greatest[i] % 901));
            int[] one = least.clone();
            one[i] = Math.min(50, greatest[i]);
            Check.due("one " + words[i], by(x, one), one[i]);
        }
    }

    private static int by(CommaState x, int[] f) {
        return x.would(f[0], f[1], f[2], f[3], f[4], f[5], f[6], f[7], f[8], f[9]);
    }
}
