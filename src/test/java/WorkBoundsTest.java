/** WORK, its steps, undo() and what is REFUSED: a test for each boundary that a sentence names. */
public final class WorkBoundsTest {
    private static final String TWO = "town 9 5 2;town 9 4 3;";

    public static void main(String[] args) {
        bytesOfAWork();
        noSteps();
        textsOfSteps();
        movesOf1To99();
        againOf0To30();
        sixAgainsOpen();
        nothingDoneByAFault();
        townsGoBySides();
        stepsInOrder();
        refusedMoves();
        moveBringsVoters();
        schoolAndFly();
        votesAtLeastNoneAtMostAll();
        votesByAllAsTheyBegin();
        whoIsIn();
        yearsTo400();
        begunAtMost200();
        againsAreBegun();
        refusedAreBegun();
        leftOutInsideAgains();
        worksAtMost16();
        undoneOneByOne();
        refusedByTheLatest();
        canAndMost();
        Check.end();
    }

    private static CommaState done(String text, int steps) {
        CommaState x = Check.of(TWO);
        Check.due("work " + text, Check.work(x, text), steps);
        Check.due("no fault of work " + text, x.fault(), -1);
        Check.due("one to undo behind " + text, x.count(2), 1);
        return x;
    }

    private static void faulty(String text, int answer, int place) {
        CommaState x = Check.of(TWO);
        Check.due("work " + text, Check.work(x, text), answer);
        Check.due("fault of work " + text, x.fault(), place);
        Check.due("no year by " + text, x.told(2), 0);
        Check.due("none to undo behind " + text, x.count(2), 0);
        Check.due("the tape is empty behind " + text, x.count(1), 0);
    }

    private static void bytesOfAWork() {
        Check.due("150 bytes, the last one counts", done(" ".repeat(145) + "year;", 1).told(2), 1);
        Check.due("37 steps", done("fly;".repeat(36) + "year;", 37).told(2), 1);
        faulty(" ".repeat(146) + "year", -9, 150);
        CommaState x = Check.of(TWO);
        Check.feed(x, "year;".repeat(32));
        Check.bad("151", () -> x.work(151));
        Check.due("the tape stays", x.count(1), 160);
        Check.due("nothing is done", x.told(2), 0);
        Check.due("150 of 160", x.work(150), 30);
        Check.due("the tape is empty then", x.count(1), 0);
        Check.bad("1 of 0", () -> x.work(1));
        Check.bad("-1", () -> x.work(-1));
    }

    private static void noSteps() {
        done("", 0);
        done("     ", 0);
        Check.due("undone", done("", 0).undo(), 0);
    }

    private static void textsOfSteps() {
        Check.due("no blanks but between numbers", done("move0 1 2;year;school1;", 3).town(1, 1), 6);
        Check.due("blanks ahead of all", done("  again  2  [  year  ;  ]  ;  ", 2).told(2), 2);
        faulty("year", -9, 4);
        faulty("year;vote", -9, 9);
        faulty("year;;", -9, 5);
        faulty("year;]", -9, 5);
        faulty("year;years;", -9, 5);
        faulty("year;1;", -9, 5);
        faulty("year;town 1 0 1;", -9, 5);
        faulty("year;school 2;", -8, 12);
        faulty("year;school;", -9, 11);
        faulty("year;fly 1;", -9, 9);
        faulty("year;again 2", -9, 12);
        faulty("year;again 2;", -9, 12);
        faulty("year;again 2(", -9, 12);
        faulty("year;again 2[", -9, 13);
        faulty("year;again 2[year", -9, 17);
        faulty("year;again 2[year]", -9, 17);
        faulty("year;again 2[year;", -9, 18);
        faulty("year;again 2[year;]", -9, 19);
        faulty("year;again 2[year;)", -9, 18);
        faulty("year;again [year;];", -9, 11);
    }

    private static void movesOf1To99() {
        Check.due("1", done("move 0 1 1;", 1).town(0, 1), 4);
        Check.due("99 can stand", done("move 0 1 99;", 0).told(9), 1);
        faulty("year;move 0 1 0;", -8, 14);
        faulty("year;move 0 1 100;", -8, 14);
        faulty("year;move 0 1 4294967297;", -8, 14);
        faulty("year;move 2 1 1;", -8, 10);
        faulty("year;move 0 2 1;", -8, 12);
        faulty("year;move 0 1;", -9, 13);
        faulty("year;move 0 0 0;", -8, 14);
        CommaState none = new CommaState();
        Check.due("no towns", Check.work(none, "move 0 0 1;"), -8);
        Check.due("at A", none.fault(), 5);
        Check.due("no towns", Check.work(none, "school 0;"), -8);
        Check.due("at T", none.fault(), 7);
    }

    private static void againOf0To30() {
        Check.due("0", done("again 0[year;];fly;", 1).told(2), 0);
        Check.due("1", done("again 1[year;];", 1).told(2), 1);
        Check.due("30", done("again 30[year;];", 30).told(2), 30);
        Check.due("nothing inside", done("again 30[];year;", 1).told(2), 1);
        faulty("year;again 31[year;];", -8, 11);
        faulty("year;again 4294967296[year;];", -8, 11);
    }

    private static void sixAgainsOpen() {
        String six = "again 1[".repeat(6);
        Check.due("six", done(six + "year;" + "];".repeat(6), 1).told(2), 1);
        Check.due("closed ones do not count", done(six + "];".repeat(6) + six + "year;" + "];".repeat(6), 1).told(2), 1);
        faulty("year;" + six + "again 1[];" + "];".repeat(6), -7, 53);
        faulty("year;" + six + "  again 1[", -7, 55);
        faulty("year;" + six + "again 99", -7, 53);
        faulty("year;" + six + "again", -7, 53);
        faulty("year;" + six + "agains", -9, 53);
        faulty("year;" + six + "];" + "again 1[again 1[", -7, 63);
        faulty("year;" + six + "fly;again 1[", -7, 57);
    }

    private static void nothingDoneByAFault() {
        CommaState x = Check.of(TWO);
        Check.work(x, "fly;move 0 0 1;");
        String before = Check.shown(x);
        Check.due("a fault at the end", Check.work(x, "year;vote;school 0;fly;move 0 1 1;x"), -9);
        Check.due("its place", x.fault(), 34);
        Check.same("all stays", Check.shown(x).substring(8), before.substring(8));
    }

    private static void side(String town, int side) {
        Check.due("side of " + town, Check.of(town).town(0, 3), side);
    }

    private static void townsGoBySides() {
        side("town 1 1 1;", 0);
        side("town 1 0 1;", 1);
        side("town 2 0 1;", 1);
        side("town 2 1 1;", 2);
        side("town 2 2 1;", 0);
        side("town 9 4 1;", 1);
        side("town 9 5 1;", 0);
        side("town 98 48 1;", 1);
        side("town 98 49 1;", 2);
        side("town 98 50 1;", 0);
        side("town 99 49 1;", 1);
        side("town 99 50 1;", 0);
    }

    private static void stepsInOrder() {
        CommaState x = Check.of("town 9 5 2;town 9 4 3;");
        Check.due("a move that the one ahead makes possible", Check.work(x, "move 1 0 6;move 0 1 4;move 1 0 6;"), 2);
        Check.due("first", x.town(0, 1), 7);
        Check.due("the comma flies ahead of the vote", Check.work(x, "fly;vote;fly;"), 3);
        Check.due("fewer", x.town(0, 1), 6);
    }

    private static void refused(String state, String work) {
        CommaState x = Check.of(state);
        String before = Check.shown(x);
        Check.due(work + " is not done", Check.work(x, work), 0);
        Check.due(work + " is refused", x.told(9), 1);
        x.undo();
        Check.same(work + " undone", Check.shown(x), before);
        CommaState y = Check.of(state);
        Check.work(y, work);
        Check.due(work + " leaves voters", y.told(6) * 1000 + y.town(0, 0), x.told(6) * 1000 + x.town(0, 0));
        Check.due(work + " leaves who breathe", y.told(7) * 1000 + y.town(0, 1), x.told(7) * 1000 + x.town(0, 1));
    }

    private static void refusedMoves() {
        refused("town 9 5 2;town 9 4 3;", "move 0 0 1;");
        refused("town 9 5 2;town 9 4 3;", "move 0 1 6;");
        refused("town 9 0 2;town 9 4 3;", "move 0 1 1;");
        refused("town 5 5 2;town 9 4 3;", "move 0 1 5;");
        refused("town 1 1 2;town 9 4 3;", "move 0 1 1;");
        refused("town 99 99 2;town 9 4 3;", "move 0 1 99;");
        Check.due("as many as breathe", done("move 0 1 5;", 1).town(0, 1), 0);
        CommaState x = Check.of("town 5 5 2;town 9 4 3;");
        Check.due("all but one", Check.work(x, "move 0 1 4;"), 1);
        Check.due("one is left", x.town(0, 0) * 10 + x.town(0, 1), 11);
        Check.due("a refused one does not end the work", done("move 0 0 1;year;", 1).told(2), 1);
        // 8 towns of 99 are 792 voters: none can come near 999
        CommaState y = Check.of("town 99 99 1;".repeat(8));
        Check.due("all go to one", Check.work(y, "move 1 0 98;move 2 0 98;move 3 0 98;move 4 0 98;move 5 0 98;move 6 0 98;move 7 0 98;"), 7);
        Check.due("785 there", y.town(0, 0) * 1000 + y.town(0, 1), 785785);
    }

    private static void moveBringsVoters() {
        CommaState x = done("move 0 1 3;", 1);
        Check.due("voters of A", x.town(0, 0), 6);
        Check.due("who breathe in A", x.town(0, 1), 2);
        Check.due("voters of C", x.town(1, 0), 12);
        Check.due("who breathe in C", x.town(1, 1), 7);
        Check.due("all voters", x.told(6), 18);
        Check.due("no road is needed", x.told(1), 0);
    }

    private static void schoolAndFly() {
        Check.due("parted", done("school 1;", 1).town(1, 5), 1);
        Check.due("the other one is not", done("school 1;", 1).town(0, 5), 0);
        Check.due("no more", done("school 1;school 1;", 2).town(1, 5), 0);
        Check.due("the comma is gone", done("fly;", 1).told(5), 0);
        Check.due("and come", done("fly;fly;", 2).told(5), 1);
        CommaState x = Check.of("town 1 0 1;".repeat(8));
        Check.work(x, "school 7;");
        Check.due("the last of eight", x.town(7, 5), 1);
    }

    private static int breatheBehind(String state, String law) {
        CommaState x = Check.of(state);
        Check.law(x, law);
        Check.work(x, "vote;");
        return x.town(0, 1);
    }

    private static void votesAtLeastNoneAtMostAll() {
        Check.due("to all", breatheBehind("town 9 4 1;", "5"), 9);
        Check.due("all at most", breatheBehind("town 9 4 1;", "6"), 9);
        Check.due("one short of all", breatheBehind("town 9 4 1;", "4"), 8);
        Check.due("to none", breatheBehind("town 9 4 1;", "0-4"), 0);
        Check.due("0 at least", breatheBehind("town 9 4 1;", "0-5"), 0);
        Check.due("one left", breatheBehind("town 9 4 1;", "0-3"), 1);
        Check.due("99 more", breatheBehind("town 99 0 1;", "999"), 99);
        Check.due("99 fewer", breatheBehind("town 99 99 1;", "0-999"), 0);
        CommaState x = Check.of("town 99 99 1;town 99 99 1;town 99 99 1;");
        Check.law(x, "(0-999)*(1-town)");
        Check.work(x, "move 1 0 98;move 2 0 98;vote;");
        Check.due("99 fewer of 295, not all that comes out", x.town(0, 1), 295 - 99);
    }

    private static void votesByAllAsTheyBegin() {
        CommaState x = Check.of("town 1 0 1;town 1 0 1;town 1 0 1;road 0 1;road 1 2;");
        Check.law(x, "near+1-town");
        Check.work(x, "vote;");
        Check.due("town 0 alone turns", x.sides(0), 1);
        Check.work(x, "vote;");
        Check.due("then town 1", x.sides(0), 3);
        CommaState y = Check.of("town 9 4 1;town 9 4 1;");
        Check.law(y, "votes*3+in");
        Check.work(y, "vote;");
        Check.due("votes and in of the beginning", y.town(0, 1) * 10 + y.town(1, 1), 55);
        Check.work(y, "vote;");
        Check.due("one more vote", y.town(0, 1) * 10 + y.town(1, 1), 88);
    }

    private static int inBehind(String state, String law, String work) {
        CommaState x = Check.of(state);
        Check.law(x, law);
        Check.work(x, work);
        return x.told(4);
    }

    private static void whoIsIn() {
        Check.due("0 has more", inBehind("town 9 5 3;town 9 4 2;", "0", "vote;"), 0);
        Check.due("1 has more", inBehind("town 9 5 2;town 9 4 3;", "0", "vote;"), 1);
        Check.due("alike: 1 stays", inBehind("town 9 5 2;town 9 4 2;", "0", "vote;"), 1);
        Check.due("alike: 0 stays", inBehind("town 9 5 2;town 9 5 2;", "0-town*votes", "vote;vote;"), 0);
        Check.due("seats of neither count for none", inBehind("town 9 5 1;town 8 4 9;", "0", "vote;"), 0);
        Check.due("all neither: who was in", inBehind("town 8 4 9;", "0", "vote;"), 1);
        Check.due("by how they go behind the vote", inBehind("town 9 4 1;", "1", "vote;"), 0);
        Check.due("seats, not towns", inBehind("town 9 5 1;town 9 5 1;town 9 4 3;", "0", "vote;"), 1);
        Check.due("none without a vote", inBehind("town 9 9 9;", "0", "year;"), 1);
        CommaState x = new CommaState();
        Check.due("without towns a vote is done", Check.work(x, "vote;vote;"), 2);
        Check.due("two votes", x.told(3), 2);
        Check.due("who was in", x.told(4), 1);
    }

    private static void yearsTo400() {
        CommaState x = Check.of(TWO);
        String hundred = "again 20[year;year;year;year;year;];";
        for (int i = 1; i <= 3; i++) {
            Check.due("hundred", Check.work(x, hundred), 100);
        }
        Check.due("to 399", Check.work(x, "again 19[year;year;year;year;year;];year;year;year;year;"), 99);
        Check.due("399", x.told(2), 399);
        Check.due("the 400th", Check.work(x, "year;"), 1);
        Check.due("not refused", x.told(9), 0);
        Check.due("400", x.told(2), 400);
        Check.due("one more", Check.work(x, "year;fly;"), 1);
        Check.due("is refused", x.told(9), 1);
        Check.due("400 still", x.told(2), 400);
        x.undo();
        x.undo();
        Check.due("399 again", x.told(2), 399);
    }

    private static void begunAtMost200() {
        String most = "again 30[fly;fly;fly;fly;fly;fly;];" + "fly;".repeat(18);
        Check.due("the 200th is done", done(most + "year;", 199).told(2), 1);
        Check.due("the 201st is left out", done(most + "fly;year;", 199).told(2), 0);
        Check.due("what is left out is not refused", done(most + "fly;move 0 0 1;", 199).told(9), 0);
        Check.due("a refused 200th", done(most + "move 0 0 1;year;", 198).told(9), 1);
        CommaState x = done(most + "year;", 199);
        Check.due("the next work has 200 of its own", Check.work(x, most + "year;"), 199);
        Check.due("two years", x.told(2), 2);
    }

    private static void againsAreBegun() {
        String three = "again 30[again 1[fly;];again 1[fly;];again 1[fly;];];" + "fly;".repeat(18);
        Check.due("each time it is come to", done(three + "year;", 109).told(2), 1);
        Check.due("and one more", done(three + "fly;year;", 109).told(2), 0);
        String none = "again 30[again 0[];again 0[];again 0[];again 0[];again 0[];fly;];" + "fly;".repeat(18);
        Check.due("of none, too", done(none + "year;", 49).told(2), 1);
        Check.due("of none, and one more", done(none + "fly;year;", 49).told(2), 0);
        Check.due("its steps are left out", done("again 30[fly;fly;fly;fly;fly;fly;];" + "fly;".repeat(18) + "again 9[year;];", 198).told(2), 0);
        Check.due("its first step is the 200th", done("again 30[fly;fly;fly;fly;fly;fly;];" + "fly;".repeat(17) + "again 9[year;];", 198).told(2), 1);
    }

    private static void refusedAreBegun() {
        String some = "again 30[move 0 0 1;fly;fly;fly;fly;fly;];" + "fly;".repeat(18);
        CommaState x = done(some + "year;", 169);
        Check.due("the 200th is done", x.told(2), 1);
        Check.due("30 refused", x.told(9), 30);
        CommaState y = done(some + "fly;year;", 169);
        Check.due("the 201st is left out", y.told(2), 0);
        Check.due("30 refused", y.told(9), 30);
    }

    private static void leftOutInsideAgains() {
        // the outer again, six rounds of 31, an again and 12 steps
        Check.due("192 of them", done("again 30[again 30[year;];];", 192).told(2), 192);
        Check.due("192 refused", done("again 30[again 30[move 0 0 1;];];", 0).told(9), 192);
        Check.due("empty ones end, too", done("again 30[again 30[again 30[again 30[];];];];year;", 0).told(2), 0);
        Check.due("deep ones end, too", done("again 30[".repeat(6) + "year;" + "];".repeat(6) + "fly;", 188).told(2), 188);
    }

    private static void worksAtMost16() {
        CommaState x = Check.of(TWO);
        for (int i = 1; i <= 15; i++) {
            Check.due("work " + i, Check.work(x, "year;"), 1);
            Check.due("works " + i, x.count(2), i);
        }
        Check.due("a faulty one", Check.work(x, "year;x"), -9);
        Check.due("is none", x.count(2), 15);
        Check.due("the 16th", Check.work(x, "year;move 0 0 1;"), 1);
        Check.due("16", x.count(2), 16);
        Check.due("a fault before", Check.book(x, "x"), -9);
        Check.due("its place", x.fault(), 0);
        Check.due("the 17th", Check.work(x, "year;"), -20);
        Check.due("is not read", x.told(2), 16);
        Check.due("16 still", x.count(2), 16);
        Check.due("no fault", x.fault(), -1);
        Check.due("the tape is empty", x.count(1), 0);
        Check.due("refused by the latest stay", x.told(9), 1);
        Check.due("a faulty 17th", Check.work(x, "x"), -20);
        Check.due("has no fault", x.fault(), -1);
        Check.due("an empty 17th", x.work(0), -20);
        Check.feed(x, "year;");
        Check.bad("a wrong n", () -> x.work(21));
        Check.due("the tape stays", x.count(1), 20);
        Check.due("other texts are read", x.book(0), 0);
        Check.due("undone", x.undo(), 15);
        Check.due("room again", Check.work(x, "year;"), 1);
        Check.due("and none", Check.work(x, "year;"), -20);
    }

    private static void undoneOneByOne() {
        CommaState x = Check.of(TWO + "road 0 1;");
        Check.due("none", x.undo(), -1);
        String[] works = {"move 0 1 2;", "school 0;fly;", "vote;year;", "", "vote;move 0 0 1;"};
        String[] before = new String[works.length];
        for (int i = 0; i < works.length; i++) {
            x.undo();
            Check.state(x, TWO + "road 0 1;");
            for (int j = 0; j < i; j++) {
                Check.work(x, works[j]);
            }
            before[i] = Check.shown(x);
        }
        CommaState y = Check.of(TWO + "road 0 1;");
        for (String work : works) {
            Check.work(y, work);
        }
        for (int i = works.length - 1; i >= 0; i--) {
            Check.due("undo to " + i, y.undo(), i);
            Check.same("as before work " + i, Check.shown(y), before[i]);
        }
        Check.due("none left", y.undo(), -1);
        Check.same("all stays", Check.shown(y), before[0]);
        CommaState z = Check.of("town 9 9 1;");
        Check.work(z, "vote;");
        Check.due("0 is in", z.told(4), 0);
        Check.due("undone", z.undo(), 0);
        Check.due("1 is in again", z.told(4), 1);
    }

    private static void refusedByTheLatest() {
        CommaState x = Check.of(TWO);
        Check.due("ahead of any", x.told(9), 0);
        Check.work(x, "move 0 0 1;move 1 1 1;");
        Check.due("two", x.told(9), 2);
        Check.work(x, "move 0 0 1;");
        Check.due("of the latest alone", x.told(9), 1);
        x.undo();
        Check.due("behind undo", x.told(9), 0);
        Check.work(x, "move 0 0 1;");
        Check.due("a faulty work", Check.work(x, "x"), -9);
        Check.due("leaves it", x.told(9), 1);
        x.image();
        Check.due("an image leaves it", x.told(9), 1);
        x.restore();
        Check.due("behind restore", x.told(9), 0);
        Check.work(x, "move 0 0 1;");
        Check.work(x, "fly;");
        Check.due("none by the latest", x.told(9), 0);
    }

    private static void most(String state, int from, int to, int want) {
        CommaState x = Check.of(state);
        Check.due("most of " + state, x.most(from, to), want);
        Check.due("can 0 of " + state, x.can(from, to, 0) ? 1 : 0, 0);
        Check.due("can -1 of " + state, x.can(from, to, -1) ? 1 : 0, 0);
        Check.due("can 1 of " + state, x.can(from, to, 1) ? 1 : 0, want >= 1 ? 1 : 0);
        Check.due("can that of " + state, x.can(from, to, want) ? 1 : 0, want >= 1 ? 1 : 0);
        Check.due("can one more of " + state, x.can(from, to, want + 1) ? 1 : 0, 0);
        Check.due("can the greatest number of " + state, x.can(from, to, Integer.MAX_VALUE) ? 1 : 0, 0);
        Check.due("can the least number of " + state, x.can(from, to, Integer.MIN_VALUE) ? 1 : 0, 0);
    }

    private static void canAndMost() {
        most("town 9 5 1;town 9 4 1;", 0, 1, 5);
        most("town 9 5 1;town 9 4 1;", 1, 0, 4);
        most("town 9 0 1;town 9 4 1;", 0, 1, 0);
        most("town 5 5 1;town 9 4 1;", 0, 1, 4);
        most("town 1 1 1;town 9 4 1;", 0, 1, 0);
        most("town 99 99 1;town 9 4 1;", 0, 1, 98);
        most("town 9 5 1;town 9 4 1;", 0, 0, 0);
        CommaState x = Check.of("town 99 99 1;town 99 99 1;");
        Check.work(x, "move 1 0 50;");
        Check.due("99 at most by one move", x.most(0, 1), 99);
        Check.yes("99", x.can(0, 1, 99));
        Check.yes("not 100", !x.can(0, 1, 100));
        Check.due("nothing moved", x.town(0, 0), 149);
    }
}
