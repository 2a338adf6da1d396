/** Promises 1 to 8: the tape, the four texts with their faults, and undo. */
public final class TextsTest {
    private static final String FOUR =
        "town 10 6 4;town 9 4 3;town 8 4 2;town 20 5 6;road 0 1;road 1 2;road 2 3;";

    public static void main(String[] args) {
        newObject();
        feed();
        stateTexts();
        stateFaults();
        stateResets();
        lawTexts();
        lawFaults();
        workTexts();
        workFaults();
        workLimits();
        bookTexts();
        faultPlaces();
        undo();
        Check.end();
    }

    private static void newObject() {
        CommaState x = new CommaState();
        int[] want = {0, 0, 0, 0, 1, 1, 0, 0, 0, 0, 0};
        for (int what = 0; what < want.length; what++) {
            Check.due("new told " + what, x.told(what), want[what]);
        }
        for (int what = 0; what < 3; what++) {
            Check.due("new count " + what, x.count(what), 0);
        }
        Check.due("new fault", x.fault(), -1);
        Check.due("new status", x.status(0) + x.status(1), 0);
        Check.noSuch("new town", () -> x.town(0, 0));
    }

    private static void feed() {
        CommaState x = new CommaState();
        for (int i = 1; i <= 30; i++) {
            Check.due("feed " + i, x.feed(0x20202020, 0x20202020, 0x20202020, 0x20202020, 0x20202020), 20 * i);
        }
        Check.due("feed 31", x.feed(1, 2, 3, 4, 5), -1);
        Check.due("bytes", x.count(1), 600);
        Check.due("600 blanks are a state", x.state(600), 0);
        Check.due("bytes behind it", x.count(1), 0);
        Check.due("highest byte first", x.feed(('c' << 24) | ('o' << 16) | ('m' << 8) | 'm', ('a' << 24) | (' ' << 16) | ('0' << 8) | ';', -1, -1, -1), 20);
        Check.due("read", x.state(8), 0);
        Check.due("comma gone", x.told(5), 0);
        Check.feed(x, "comma 1;" + (char) 255);
        Check.due("byte 255", x.state(9), -9);
        Check.due("at it", x.fault(), 8);
    }

    private static void stateTexts() {
        CommaState x = new CommaState();
        Check.due("four towns", Check.state(x, FOUR), 4);
        Check.due("blanks anywhere", Check.state(x, "  town  10 6 4 ; town 9 4 3;  road 0  1 ;comma0;  "), 2);
        Check.due("comma", x.told(5), 0);
        Check.due("roads", x.told(1), 1);
        Check.due("no blanks needed ahead of digits", Check.state(x, "town9 9 9;comma0;comma1;"), 1);
        Check.due("last comma counts", x.told(5), 1);
        Check.due("leading zeroes", Check.state(x, "town 0099 000 01;"), 1);
        Check.due("voters", x.town(0, 0), 99);
        Check.due("edges", Check.state(x, "town 1 0 1;town 99 99 9;"), 2);
        Check.due("60 clauses", Check.state(x, Check.times(60, "comma 0;")), 0);
        String eight = Check.times(8, "town 1 0 1;");
        Check.due("8 towns", Check.state(x, eight), 8);
        String roads = "road 0 1;road 0 2;road 0 3;road 0 4;road 0 5;road 0 6;road 0 7;road 1 2;road 1 3;road 1 4;road 1 5;road 1 6;";
        Check.due("12 roads", Check.state(x, eight + roads), 8);
        Check.due("12 roads told", x.told(1), 12);
        Check.due("13 roads", Check.state(x, eight + roads + " road 1 7;"), -7);
        Check.due("at its word", x.fault(), 8 * 11 + 12 * 9 + 1);
        Check.due("all stayed", x.told(1), 12);
    }

    private static void stateFault(String text, int answer, int place) {
        CommaState x = new CommaState();
        Check.due("state " + text, Check.state(x, text), answer);
        Check.due("fault of state " + text, x.fault(), place);
        Check.due("tape behind " + text, x.count(1), 0);
        Check.due("towns behind " + text, x.told(0), 0);
    }

    private static void stateFaults() {
        stateFault("town", -9, 4);
        stateFault("town ", -9, 5);
        stateFault("town 1 1 1", -9, 10);
        stateFault("town 1 1;", -9, 8);
        stateFault("town 1 1 1 1;", -9, 11);
        stateFault("Town 1 1 1;", -9, 0);
        stateFault("toWn 1 1 1;", -9, 0);
        stateFault("  towns 1 1 1;", -9, 2);
        stateFault(";", -9, 0);
        stateFault("5;", -9, 0);
        stateFault("town 0 0 1;", -8, 5);
        stateFault("town 00 0 1;", -8, 5);
        stateFault("town 100 0 1;", -8, 5);
        stateFault("town 9 1 0;", -8, 9);
        stateFault("town 99999999999999999999 0 1;", -8, 5);
        stateFault("town 4294967297 0 1;", -8, 5);
        stateFault("town 5 6 1;", -8, 7);
        stateFault("town 5 5 10;", -8, 9);
        stateFault("comma 2;", -8, 6);
        stateFault("road 0 1;", -8, 5);
        stateFault("town 1 1 1;road 0 1;", -8, 18);
        stateFault("town 1 1 1;road 0 0;", -8, 18);
        stateFault("town 1 1 1;road 1 0;", -8, 16);
        stateFault("town 1 1 1;road 0 x;", -9, 18);
        stateFault("town 1 1 1;town 1 1 1;road 0 1;road 0 1;", -8, 38);
        stateFault("town 1 1 1;town 1 1 1;road 1 0;road 0 1;", -8, 38);
        stateFault(Check.times(60, "comma 1;") + "comma 1;", -7, 480);
        stateFault(Check.times(60, "comma 1;") + " town 1 1 1;", -7, 481);
        stateFault(Check.times(60, "comma 1;") + "commas 1;", -9, 480);
        stateFault(Check.times(60, "comma 1;") + ";", -9, 480);
        stateFault(Check.times(8, "town 1 1 1;") + "town 0 1 1;", -7, 88);
        stateFault("town 1 1 1\n;", -9, 10);
    }

    private static void stateResets() {
        CommaState x = Check.of(FOUR);
        Check.law(x, "5");
        Check.book(x, "0 0;1 1;");
        Check.work(x, "year;vote;school 0;fly;move 0 0 1;");
        x.image();
        Check.due("refused", x.told(9), 1);
        Check.due("faulty state", Check.state(x, "town 1 1 1;town"), -9);
        Check.due("law stayed", x.town(0, 6), 5);
        Check.due("book stayed", x.told(8), 2);
        Check.due("images stayed", x.count(0), 1);
        Check.due("works stayed", x.count(2), 1);
        Check.due("year stayed", x.told(2), 1);
        Check.due("towns stayed", x.told(0), 4);
        Check.due("refused stayed", x.told(9), 1);
        Check.due("new state", Check.state(x, "town 3 1 1;"), 1);
        Check.due("no law", x.town(0, 6), 1);
        int[] want = {1, 0, 0, 0, 1, 1, 3, 1, 0, 0, 1};
        for (int what = 0; what < want.length; what++) {
            Check.due("new state's told " + what, x.told(what), want[what]);
        }
        Check.due("no images", x.count(0), 0);
        Check.due("no works", x.count(2), 0);
        Check.due("no school parted", x.town(0, 5), 0);
        Check.bad("state -1", () -> x.state(-1));
        Check.feed(x, "comma 0;");
        Check.bad("state 21", () -> x.state(21));
        Check.due("tape stays", x.count(1), 20);
        Check.due("state 8", x.state(8), 0);
    }

    private static void would(String law, int want) {
        CommaState x = new CommaState();
        Check.due("law " + law, Check.law(x, law), 1);
        Check.due("fault of law " + law, x.fault(), -1);
        Check.due("sway by " + law, x.would(900, 800, 7, 1, 0, 6, 500, 1, 5, 333), want);
    }

    private static void lawTexts() {
        would("1+2*3", 7);
        would("(1+2)*3", 9);
        would("10-3-2", 5);
        would("7/2*2", 6);
        would("0-7/2", -3);
        would("(0-7)/2", -3);
        would("(0-7)%3", -1);
        would("7%(0-3)", 1);
        would("7/0", 0);
        would("7%0", 0);
        would("5+7/(3-3)", 5);
        would("least[4,9]", 4);
        would("most [ 4 , 9 ] ", 9);
        would("least[most[1,2],3]*2", 4);
        would("voters/100", 9);
        would("breathe/100", 8);
        would("seats", 7);
        would("comma", 1);
        would("school", 0);
        would("near", 6);
        would("votes/100", 5);
        would("in", 1);
        would("town", 5);
        would("year/10", 33);
        would("999", 99);
        would("0-999", -99);
        would("99", 99);
        would("0-99", -99);
        would("999*999*999*999", -99);
        would("((((((1))))))", 1);
        would("((((((1))))))+((((((1))))))", 2);
        would("least[least[least[least[least[least[8,7],6],5],4],3],2]", 2);
        would("1+2*least[1+2*least[1+2*least[1+2*least[1+2*least[1+2*least[1,1+2*3],9],9],9],9],9]", 19);
        would("most[1,1+2*most[1,1+2*most[1,1+2*most[1,1+2*most[1,1+2*most[1,1+2*3]]]]]]", 99);
        // 65536 * 32768 wraps to the least number, which, by -1, is itself again
        String least = "64*32*32*64*512";
        would("(" + least + ")/(0-1)", -99);
        would("(" + least + ")%(0-1)", 0);
        would("1" + Check.times(74, "+0") + " ", 1);
        would("000999-000", 99);
        CommaState x = new CommaState();
        Check.due("without a law, comma", x.would(0, 0, 1, 1, 0, 0, 0, 0, 0, 0), 1);
        Check.due("without a law, no comma", x.would(0, 0, 1, 0, 0, 0, 0, 0, 0, 0), -1);
    }

    private static void lawFault(String text, int answer, int place) {
        CommaState x = new CommaState();
        Check.law(x, "42");
        Check.due("law " + text, Check.law(x, text), answer);
        Check.due("fault of law " + text, x.fault(), place);
        Check.due("tape behind law " + text, x.count(1), 0);
        Check.due("law stays behind " + text, x.would(0, 0, 1, 1, 0, 0, 0, 0, 0, 0), 42);
    }

    private static void lawFaults() {
        lawFault("", -9, 0);
        lawFault("   ", -9, 3);
        lawFault("1 1", -9, 2);
        lawFault("in in", -9, 3);
        lawFault("1+", -9, 2);
        lawFault("1+ ", -9, 3);
        lawFault("-1", -9, 0);
        lawFault("1+*2", -9, 2);
        lawFault("(1", -9, 2);
        lawFault("(1]", -9, 2);
        lawFault("()", -9, 1);
        lawFault("1)", -9, 1);
        lawFault("least", -9, 5);
        lawFault("least(1,2)", -9, 5);
        lawFault("least[1]", -9, 7);
        lawFault("least[1;2]", -9, 7);
        lawFault("least[1,2", -9, 9);
        lawFault("least[1,2)", -9, 9);
        lawFault("least[,2]", -9, 6);
        lawFault("breath", -9, 0);
        lawFault("1+breather", -9, 2);
        lawFault("A", -9, 0);
        lawFault("1000", -8, 0);
        lawFault("1+ 1000", -8, 3);
        lawFault("1+99999999999999999999999", -8, 2);
        lawFault("(((((((", -7, 6);
        lawFault("((((((least", -7, 6);
        lawFault("((((((leasts", -9, 6);
        lawFault("((((((most[1,2]))))))", -7, 6);
        lawFault("most[1,(((((( 1", -7, 12);
        lawFault("((((((1(", -9, 7);
        lawFault("((((((1000", -8, 6);
        lawFault("in;", -9, 2);
        CommaState x = new CommaState();
        Check.feed(x, Check.times(160, " "));
        Check.bad("law 151", () -> x.law(151));
        Check.due("tape stays", x.count(1), 160);
        Check.due("law 150 blanks", x.law(150), -9);
        Check.due("at the length", x.fault(), 150);
    }

    private static void workTexts() {
        CommaState x = Check.of(FOUR);
        Check.due("no work", Check.work(x, ""), 0);
        Check.due("move", Check.work(x, "move 0 1 6;"), 1);
        Check.due("voters from", x.town(0, 0), 4);
        Check.due("breathe from", x.town(0, 1), 0);
        Check.due("voters to", x.town(1, 0), 15);
        Check.due("breathe to", x.town(1, 1), 10);
        Check.due("school twice", Check.work(x, "school 1;school 1;school 3;"), 3);
        Check.due("school 1", x.town(1, 5), 0);
        Check.due("school 3", x.town(3, 5), 1);
        Check.due("fly", Check.work(x, "fly;fly;fly;"), 3);
        Check.due("comma", x.told(5), 0);
        Check.due("vote", Check.work(x, "vote ; "), 1);
        Check.due("votes", x.told(3), 1);
        Check.due("breathe at least 0", x.town(0, 1), 0);
        Check.due("breathe fewer", x.town(1, 1), 9);
        Check.due("years", Check.work(x, "again 3[year;again 2[year;];];"), 9);
        Check.due("year", x.told(2), 9);
        Check.due("as many steps as a text holds", Check.work(x, Check.times(37, "fly;") + "  "), 37);
        Check.due("again 0", Check.work(x, "again 0[year;];again 2[];"), 0);
        Check.due("nothing refused", x.told(9), 0);
        Check.due("six open", Check.work(x, "again 1[again 1[again 1[again 1[again 1[again 2[year;];];];];];];"), 2);
        refusals();
        votes();
    }

    private static void refusals() {
        CommaState x = Check.of("town 5 5 1;town 5 3 1;town 99 99 1;");
        Check.due("one town", Check.work(x, "move 0 0 1;"), 0);
        Check.due("refused", x.told(9), 1);
        Check.due("too few breathe", Check.work(x, "move 1 0 4;move 1 0 3;"), 1);
        Check.due("refused 1", x.told(9), 1);
        Check.due("none would be left", Check.work(x, "move 0 1 8;move 0 1 7;"), 1);
        Check.due("one is left", x.town(0, 0), 1);
        CommaState y = Check.of("town 99 99 1;" + Check.times(7, "town 99 99 1;"));
        Check.due("all to the first", Check.work(y, "move 1 0 98;move 2 0 98;move 3 0 98;move 4 0 98;move 5 0 98;move 6 0 98;move 7 0 98;"), 7);
        Check.due("voters", y.town(0, 0), 785);
        // 8 towns of 99 voters are 792 together: no move can bring a town above 999
        Check.due("all voters", y.told(6), 792);
        CommaState z = Check.of("town 9 9 1;");
        String years = "again 30[again 6[year;];];";
        // 1 again, 28 rounds of 7 steps, an again and 2 years: 200
        Check.due("years at a time", Check.work(z, years), 170);
        Check.work(z, years);
        Check.due("340", z.told(2), 340);
        Check.due("to 400", Check.work(z, years), 60);
        Check.due("400", z.told(2), 400);
        Check.due("years refused", z.told(9), 110);
        Check.due("one more", Check.work(z, "year;fly;"), 1);
        Check.due("one refused", z.told(9), 1);
        Check.due("400 still", z.told(2), 400);
    }

    private static void votes() {
        CommaState x = Check.of("town 9 4 2;town 9 4 2;road 0 1;");
        Check.law(x, "in * 3 + votes - near * 5");
        Check.due("sway", x.town(0, 6), 3);
        Check.due("vote by all as it begins", Check.work(x, "vote;"), 1);
        Check.due("first", x.town(0, 1), 7);
        Check.due("second", x.town(1, 1), 7);
        Check.due("0 is in", x.told(4), 0);
        Check.due("sway then", x.town(0, 6), -4);
        Check.due("vote", Check.work(x, "vote;"), 1);
        Check.due("first then", x.town(0, 1), 3);
        Check.due("1 is in", x.told(4), 1);
        CommaState y = Check.of("town 9 4 2;town 9 5 2;");
        Check.law(y, "0");
        Check.work(y, "vote;");
        Check.due("alike: who was in", y.told(4), 1);
        Check.law(y, "(1-town)*(1-votes/2)");
        Check.work(y, "vote;");
        Check.due("0 in", y.told(4), 0);
        Check.law(y, "0-(1-town)");
        Check.work(y, "vote;");
        Check.due("alike: 0 stays in", y.told(4), 0);
        Check.law(y, "99");
        Check.work(y, "vote;");
        Check.due("all at most", y.town(0, 1), 9);
        Check.law(y, "0-99");
        Check.work(y, "vote;");
        Check.due("0 at least", y.town(0, 1), 0);
    }

    private static void workFault(String text, int answer, int place) {
        CommaState x = Check.of(FOUR);
        Check.due("work " + text, Check.work(x, text), answer);
        Check.due("fault of work " + text, x.fault(), place);
        Check.due("nothing done by " + text, x.told(2), 0);
        Check.due("nothing to undo behind " + text, x.count(2), 0);
        Check.due("tape behind work " + text, x.count(1), 0);
    }

    private static void workFaults() {
        workFault("year", -9, 4);
        workFault("year;vote", -9, 9);
        workFault("year;;", -9, 5);
        workFault("year year;", -9, 5);
        workFault("years;", -9, 0);
        workFault("year;]", -9, 5);
        workFault("year;again 2", -9, 12);
        workFault("year;again 2;", -9, 12);
        workFault("year;again 2[", -9, 13);
        workFault("year;again 2[year]", -9, 17);
        workFault("year;again 2[year;]", -9, 19);
        workFault("year;again[year;];", -9, 10);
        workFault("year;again 31[year;];", -8, 11);
        workFault("year;move 0 0 0;", -8, 14);
        workFault("year;move 0 4 1;", -8, 12);
        workFault("year;move 4 0 1;", -8, 10);
        workFault("year;move 0 1 100;", -8, 14);
        workFault("year;move 0 1;", -9, 13);
        workFault("year;school 4;", -8, 12);
        workFault("year;school;", -9, 11);
        workFault("year;fly 1;", -9, 9);
        workFault("year;" + Check.times(6, "again 1[") + " again 99", -7, 54);
        workFault("year;" + Check.times(6, "again 1[") + "agains", -9, 53);
        workFault("year;" + Check.times(6, "again 1[") + "];];];];];];" + Check.times(7, "again 1["), -7, 113);
    }

    private static void workLimits() {
        CommaState x = Check.of(FOUR);
        Check.due("200 steps", Check.work(x, "again 30[again 30[fly;];];"), 200 - 8);
        Check.due("refused ones are begun", Check.work(x, "again 30[move 0 0 1;];again 30[move 0 0 1;again 5[fly;];];year;"), 24 * 5);
        Check.due("refused", x.told(9), 54);
        Check.due("what comes behind is left out", x.told(2), 0);
        Check.due("empty agains", Check.work(x, "again 30[again 30[again 30[again 30[];];];];year;"), 0);
        Check.due("year left out", x.told(2), 0);
        Check.due("agains without steps, then the year", Check.work(x, "again 28[again 6[];];again 1[];again 1[];year;"), 1);
        Check.due("199", Check.work(x, "again 28[again 3[fly;];fly;fly;fly;];fly;fly;year;fly;"), 28 * 6 + 3);
        Check.due("the 200th was the year", x.told(2), 2);
        Check.bad("work -1", () -> x.work(-1));
        Check.bad("work without bytes", () -> x.work(1));
        for (int i = 5; i < 16; i++) {
            Check.due("work " + i, Check.work(x, "fly;move 0 0 1;"), 1);
        }
        Check.due("16", x.count(2), 16);
        Check.due("a fault", Check.law(x, "x"), -9);
        Check.feed(x, "nonsense" + Check.times(160, " "));
        Check.bad("too long is told first", () -> x.work(151));
        Check.due("a 17th", x.work(8), -20);
        Check.due("no fault", x.fault(), -1);
        Check.due("tape is empty", x.count(1), 0);
        Check.due("refused by the latest", x.told(9), 1);
        Check.due("undone", x.undo(), 15);
        Check.due("a 16th again", Check.work(x, "fly;"), 1);
    }

    private static void bookFault(String text, int answer, int place) {
        CommaState x = Check.of(FOUR);
        Check.book(x, "3 1;");
        Check.due("book " + text, Check.book(x, text), answer);
        Check.due("fault of book " + text, x.fault(), place);
        Check.due("book stays behind " + text, x.told(8), 1);
        Check.due("its line stays behind " + text, x.drift(2), 4);
    }

    private static void bookTexts() {
        CommaState x = Check.of(FOUR);
        Check.due("lines", Check.book(x, " 0 0;1 1 ;2 2; 3 0; "), 4);
        Check.due("told", x.told(8), 4);
        Check.due("none", Check.book(x, "   "), 0);
        bookFault("0", -9, 1);
        bookFault("0;", -9, 1);
        bookFault("0 1", -9, 3);
        bookFault("0 1;;", -9, 4);
        bookFault("4 1;", -8, 0);
        bookFault("0 3;", -8, 2);
        bookFault("0 1;0 1;", -8, 4);
        bookFault("0 1;1 1; 0 1;", -8, 9);
        bookFault("town", -9, 0);
        Check.feed(x, Check.times(61, " "));
        Check.bad("book 61", () -> x.book(61));
        Check.due("book 60", x.book(60), 0);
    }

    private static void faultPlaces() {
        CommaState x = new CommaState();
        Check.due("state", Check.state(x, "  x"), -9);
        Check.due("place", x.fault(), 2);
        x.feed(0, 0, 0, 0, 0);
        Check.bad("law 21", () -> x.law(21));
        Check.due("a refused call is no text", x.fault(), 2);
        Check.due("text without", x.book(0), 0);
        Check.due("none", x.fault(), -1);
    }

    private static void undo() {
        CommaState x = Check.of(FOUR);
        Check.due("none", x.undo(), -1);
        Check.work(x, "fly;vote;school 2;year;move 0 3 2;");
        Check.work(x, "move 0 0 1;fly;");
        Check.due("refused", x.told(9), 1);
        Check.due("undone", x.undo(), 1);
        Check.due("refused behind undo", x.told(9), 0);
        Check.due("comma", x.told(5), 0);
        Check.due("undone", x.undo(), 0);
        int[] want = {4, 3, 0, 0, 1, 1, 47, 19, 0, 0, 15};
        for (int what = 0; what < want.length; what++) {
            Check.due("undone told " + what, x.told(what), want[what]);
        }
        Check.due("school", x.town(2, 5), 0);
        Check.due("voters", x.town(3, 0), 20);
        Check.due("none left", x.undo(), -1);
        Check.work(x, "vote;vote;");
        Check.law(x, "7");
        Check.book(x, "0 1;");
        x.undo();
        Check.due("law stays", x.town(0, 6), 7);
        Check.due("book stays", x.told(8), 1);
    }
}
