/** The TAPE, new objects, IMAGES, status and count: a test for each boundary that a sentence names. */
public final class KeepBoundsTest {
    private static final String TWO = "town 9 5 2;town 9 4 3;road 0 1;";

    public static void main(String[] args) {
        newObjects();
        feedTo600();
        feedHighestFirst();
        feedBehindAText();
        firstBytesOfTheTape();
        wrongLengths();
        stateClearsAll();
        nothingLeftOfMoreTowns();
        askedNothingStaysChanged();
        faultyTextsLeaveAll();
        faultOfTheLatestText();
        imagesAtMost3();
        restoreOfNone();
        imagesOfAllThatWorkChanges();
        imagesOfWorks();
        imagesLeaveTheRest();
        restoreAtTheSixteenth();
        statusOfRefusals();
        noImageKeepsStatus();
        counts();
        Check.end();
    }

    private static void newObjects() {
        CommaState fresh = new CommaState();
        CommaState told = Check.of(TWO);
        Check.law(told, "7");
        Check.work(told, "year;vote;fly;move 0 0 1;");
        told.image();
        Check.due("a state without clauses", told.state(0), 0);
        Check.same("a new object is one", Check.shown(told), Check.shown(fresh));
        Check.due("no law", fresh.would(0, 0, 1, 1, 0, 0, 0, 0, 0, 0), 1);
        Check.due("its status", fresh.status(0) + fresh.status(1), 0);
        CommaState other = new CommaState();
        Check.state(other, TWO);
        Check.due("objects share nothing", fresh.told(0), 0);
    }

    private static void feedTo600() {
        CommaState x = new CommaState();
        int blanks = 0x20202020;
        for (int i = 1; i <= 29; i++) {
            x.feed(blanks, blanks, blanks, blanks, blanks);
        }
        Check.due("580", x.count(1), 580);
        Check.due("the 600th byte", x.feed(blanks, blanks, blanks, 0x636f6d6d, 0x6120303b), 600);
        Check.due("no more", x.feed(blanks, blanks, blanks, 0x636f6d6d, 0x6120313b), -1);
        Check.due("nothing is done", x.count(1), 600);
        Check.due("nor again", x.feed(0, 0, 0, 0, 0), -1);
        Check.due("read", x.state(600), 0);
        Check.due("what was there", x.told(5), 0);
        Check.due("room again", x.feed(blanks, blanks, blanks, blanks, blanks), 20);
    }

    private static void feedHighestFirst() {
        CommaState x = new CommaState();
        Check.due("twenty", x.feed(0x746f776e, 0x20392034, 0x20333b63, 0x6f6d6d61, 0x20303b20), 20);
        Check.due("town 9 4 3;comma 0;", x.state(20), 1);
        Check.due("voters", x.town(0, 0), 9);
        Check.due("comma", x.told(5), 0);
        Check.due("a byte above 127 is no sign of a word", x.feed(0x746f77ee, 0x20392034, 0x20333b00, 0, 0), 20);
        Check.due("fault", x.state(11), -9);
        Check.due("forty", x.feed(-1, -1, -1, -1, -1) + x.feed(-1, -1, -1, -1, -1), 60);
    }

    private static void feedBehindAText() {
        CommaState x = new CommaState();
        Check.feed(x, "comma 0;comma 1;comma 1;");
        Check.due("read", x.state(8), 0);
        Check.due("what was left of the tape is gone", Check.state(x, "comma 0;"), 0);
        Check.due("read from its begin", x.told(5), 0);
        Check.feed(x, "comma 1");
        Check.feed(x, ";");
        Check.due("a text fed in two, zeroes between", x.state(21), -9);
        Check.due("at the first zero", x.fault(), 7);
    }

    private static void firstBytesOfTheTape() {
        CommaState x = new CommaState();
        Check.feed(x, "comma 0;");
        Check.due("none of them", x.state(0), 0);
        Check.due("the tape is empty then", x.count(1), 0);
        Check.due("as without clauses", x.told(5), 1);
        Check.feed(x, "comma 0;            ");
        Check.due("all of them", x.state(20), 0);
        Check.due("read", x.told(5), 0);
        Check.feed(x, "1");
        Check.due("a law of one byte", x.law(1), 1);
        Check.due("the tape is empty then", x.count(1), 0);
        Check.feed(x, "x");
        Check.due("a faulty one", x.law(1), -9);
        Check.due("the tape is empty then", x.count(1), 0);
        Check.feed(x, "fly;");
        Check.due("a work", x.work(4), 1);
        Check.due("the tape is empty then", x.count(1), 0);
        Check.feed(x, "fly;");
        Check.due("a book", x.book(0), 0);
        Check.due("the tape is empty then", x.count(1), 0);
    }

    private static void wrongLengths() {
        CommaState x = Check.of(TWO);
        Check.due("a faulty text", Check.law(x, "  x"), -9);
        Check.feed(x, "comma 0;");
        String before = Check.shown(x);
        int[] wrong = {-1, 21, 600, 601, Integer.MAX_VALUE, Integer.MIN_VALUE};
        for (int n : wrong) {
            Check.bad("state " + n, () -> x.state(n));
            Check.bad("law " + n, () -> x.law(n));
            Check.bad("work " + n, () -> x.work(n));
            Check.bad("book " + n, () -> x.book(n));
        }
        Check.same("all stays, the fault and the tape, too", Check.shown(x), before);
        Check.due("each refused once", x.status(1), 24);
        Check.due("the tape can still be read", x.state(8), 0);
        Check.due("comma", x.told(5), 0);
        Check.bad("state 1 of 0", () -> x.state(1));
    }

    private static void stateClearsAll() {
        CommaState x = Check.of("town 1 1 9;".repeat(8) + "road 0 1;road 1 2;road 6 7;comma 0;");
        Check.law(x, "5");
        Check.book(x, "0 1;7 1;");
        for (int i = 0; i < 3; i++) {
            Check.work(x, "year;vote;school 0;school 1;fly;move 0 0 1;");
            x.image();
        }
        Check.due("a state", Check.state(x, TWO), 2);
        Check.same("as if it were the first one", Check.shown(x), Check.shown(Check.of(TWO)));
        Check.due("nothing to undo", x.undo(), -1);
        Check.due("no images", x.restore(), -1);
        Check.due("no law", x.town(0, 6), 1);
        Check.due("all is as told", x.town(0, 3), 0);
        Check.due("but 1 is in", x.told(4), 1);
    }

    private static void nothingLeftOfMoreTowns() {
        String many = "town 99 99 9;town 2 1 3;".repeat(4)
            + "road 0 1;road 0 2;road 0 3;road 0 4;road 0 5;road 0 6;road 0 7;road 1 2;road 1 3;road 1 4;road 1 5;road 1 6;";
        String[] fewer = {"", "town 9 5 2;", "town 2 1 2;town 3 1 1;", TWO, "town 9 5 2;town 9 4 3;town 1 1 1;road 1 2;"};
        for (String state : fewer) {
            CommaState x = Check.of(many);
            Check.book(x, "0 0;1 2;2 0;7 2;");
            Check.law(x, "near-town");
            Check.work(x, "vote;school 7;move 0 1 9;fly;");
            Check.asked(x);
            Check.state(x, state);
            Check.same("as a new object by " + state, Check.asked(x), Check.asked(Check.of(state)));
        }
    }

    private static void askedNothingStaysChanged() {
        CommaState x = Check.of(TWO + "town 8 4 1;road 1 2;");
        Check.law(x, "votes+in*2-near");
        Check.book(x, "1 1;");
        Check.work(x, "vote;move 0 0 1;school 2;year;");
        x.image();
        Check.feed(x, "fly;");
        String before = Check.shown(x);
        String asked = Check.asked(x);
        x.would(999, 0, 9, 0, 1, 7, 999, 0, 7, 400);
        x.can(0, 1, 1);
        x.commas(30, 10, 1);
        Check.same("all stays", Check.shown(x), before);
        Check.same("the same answers when asked again", Check.asked(x), asked);
        Check.due("none refused", x.status(0) + x.status(1), 0);
    }

    private static void faultyTextsLeaveAll() {
        CommaState x = Check.of(TWO);
        Check.law(x, "5-town");
        Check.book(x, "0 1;");
        Check.work(x, "year;vote;school 0;fly;move 0 0 1;");
        x.image();
        String before = Check.shown(x).substring("fault -1".length());
        String[] states = {"town 1 1 1;town 1 1 1;town 1 1 1;x", "town 1 1 1;road 0 0;", "comma 1;comma 2;"};
        for (String text : states) {
            Check.yes("faulty " + text, Check.state(x, text) < 0);
        }
        Check.yes("faulty law", Check.law(x, "1+2+") < 0);
        Check.yes("faulty work", Check.work(x, "year;fly;vote;school 1") < 0);
        Check.yes("faulty book", Check.book(x, "1 0;0 0;1") < 0);
        String behind = Check.shown(x);
        Check.same("all stays", behind.substring(behind.indexOf(" told")), before);
        Check.due("the image stays", x.restore(), 0);
        Check.due("the work stays", x.undo(), 0);
        Check.due("and is undone", x.told(2), 0);
    }

    private static void faultOfTheLatestText() {
        CommaState x = new CommaState();
        Check.due("none yet", x.fault(), -1);
        Check.due("state", Check.state(x, " x"), -9);
        Check.due("its place", x.fault(), 1);
        Check.due("the same when asked again", x.fault(), 1);
        Check.due("law", Check.law(x, "  x"), -9);
        Check.due("its place", x.fault(), 2);
        Check.due("work", Check.work(x, "   x"), -9);
        Check.due("its place", x.fault(), 3);
        Check.due("book", Check.book(x, "    x"), -9);
        Check.due("its place", x.fault(), 4);
        x.image();
        x.restore();
        x.undo();
        Check.feed(x, "1");
        Check.due("no text since", x.fault(), 4);
        Check.due("a law", x.law(1), 1);
        Check.due("without", x.fault(), -1);
        Check.due("at 0", Check.book(x, "x"), -9);
        Check.due("is a place", x.fault(), 0);
        Check.due("a state", x.state(0), 0);
        Check.due("without", x.fault(), -1);
    }

    private static void imagesAtMost3() {
        CommaState x = Check.of(TWO);
        for (int i = 1; i <= 3; i++) {
            Check.due("image " + i, x.image(), i);
            Check.work(x, "year;");
        }
        Check.due("no fourth", x.image(), -1);
        Check.due("3", x.count(0), 3);
        Check.due("the latest is the third", x.restore(), 2);
        Check.due("year 2", x.told(2), 2);
        Check.due("room again", x.image(), 3);
        Check.due("and none", x.image(), -1);
        for (int i = 2; i >= 0; i--) {
            Check.due("restore to " + i, x.restore(), i);
            Check.due("year " + i, x.told(2), i);
            Check.due("images " + i, x.count(0), i);
        }
    }

    private static void restoreOfNone() {
        CommaState x = Check.of(TWO);
        Check.work(x, "year;fly;");
        String before = Check.shown(x);
        Check.due("none", x.restore(), -1);
        Check.same("all stays", Check.shown(x), before);
        x.image();
        Check.due("gone", x.restore(), 0);
        Check.due("none again", x.restore(), -1);
    }

    private static void imagesOfAllThatWorkChanges() {
        String[] works = {"move 0 1 3;", "school 1;", "fly;", "vote;", "year;", "move 1 0 2;school 0;fly;vote;year;"};
        for (String work : works) {
            CommaState x = Check.of(TWO);
            Check.work(x, "year;fly;school 0;vote;move 0 1 1;");
            String before = Check.shown(x);
            x.image();
            Check.work(x, work);
            Check.yes(work + " changes it", !Check.shown(x).equals(before));
            Check.due("restored", x.restore(), 0);
            Check.same("as ahead of " + work, Check.shown(x), before);
        }
        CommaState x = Check.of("town 9 9 1;");
        x.image();
        Check.work(x, "vote;");
        Check.due("0 is in", x.told(4), 0);
        x.restore();
        Check.due("1 is in again", x.told(4), 1);
    }

    private static void imagesOfWorks() {
        CommaState x = Check.of(TWO);
        Check.work(x, "year;");
        Check.work(x, "fly;");
        x.image();
        x.undo();
        x.undo();
        Check.work(x, "school 1;");
        Check.work(x, "move 0 1 1;");
        Check.work(x, "vote;");
        Check.due("restored", x.restore(), 0);
        Check.due("two works", x.count(2), 2);
        Check.due("undone", x.undo(), 1);
        Check.due("the fly", x.told(5) * 10 + x.told(2), 11);
        Check.due("undone", x.undo(), 0);
        Check.due("the year", x.told(5) * 10 + x.told(2), 10);
        Check.due("no school", x.town(1, 5), 0);
        Check.due("no more", x.undo(), -1);
    }

    private static void imagesLeaveTheRest() {
        CommaState x = Check.of(TWO);
        x.image();
        Check.law(x, "4");
        Check.book(x, "0 1;1 1;");
        Check.feed(x, "12345");
        Check.due("restored", x.restore(), 0);
        Check.due("law", x.town(0, 6), 4);
        Check.due("book", x.told(8), 2);
        Check.due("tape", x.count(1), 20);
        Check.due("the tape can be read", x.law(2), 1);
        Check.due("law 12", x.town(0, 6), 12);
    }

    private static void restoreAtTheSixteenth() {
        CommaState x = Check.of(TWO);
        x.image();
        for (int i = 0; i < 16; i++) {
            Check.work(x, "year;");
        }
        Check.due("none more", Check.work(x, "year;"), -20);
        x.image();
        Check.due("restored", x.restore(), 1);
        Check.due("still none more", Check.work(x, "year;"), -20);
        for (int i = 15; i >= 0; i--) {
            Check.due("undo to " + i, x.undo(), i);
            Check.due("year " + i, x.told(2), i);
        }
        Check.due("restored", x.restore(), 0);
        Check.due("works of the first image", x.count(2), 0);
        Check.due("room again", Check.work(x, "year;"), 1);
    }

    private static void statusOfRefusals() {
        CommaState x = Check.of(TWO);
        Check.noSuch("town", () -> x.town(2, 0));
        Check.due("one no such", x.status(0) * 10 + x.status(1), 10);
        Check.bad("what", () -> x.town(1, 7));
        Check.due("one of each", x.status(0) * 10 + x.status(1), 11);
        Check.noSuch("both wrong: no such alone", () -> x.town(2, 7));
        Check.due("two and one", x.status(0) * 10 + x.status(1), 21);
        Check.due("others", x.status(2), -1);
        Check.due("others", x.status(-1), -1);
        Check.due("others", x.status(Integer.MAX_VALUE), -1);
        Check.due("others", x.status(Integer.MIN_VALUE), -1);
        x.undo();
        x.restore();
        Check.law(x, "x");
        Check.due("a call that answers is not refused", x.status(0) * 10 + x.status(1), 21);
    }

    private static void noImageKeepsStatus() {
        CommaState x = Check.of(TWO);
        x.image();
        Check.bad("what", () -> x.told(11));
        Check.noSuch("road", () -> x.road(1, 0));
        Check.due("restored", x.restore(), 0);
        Check.due("one of each", x.status(0) * 10 + x.status(1), 11);
        Check.work(x, "fly;");
        x.undo();
        Check.due("undo keeps them", x.status(0) * 10 + x.status(1), 11);
        Check.state(x, TWO);
        Check.due("a new state keeps them", x.status(0) * 10 + x.status(1), 11);
    }

    private static void counts() {
        CommaState x = Check.of(TWO);
        Check.due("at first", x.count(0) + x.count(1) + x.count(2), 0);
        Check.work(x, "fly;");
        x.image();
        x.image();
        x.feed(0, 0, 0, 0, 0);
        x.feed(0, 0, 0, 0, 0);
        x.feed(0, 0, 0, 0, 0);
        Check.due("images", x.count(0), 2);
        Check.due("bytes", x.count(1), 60);
        Check.due("works", x.count(2), 1);
        Check.due("others", x.count(3), -1);
        Check.due("others", x.count(-1), -1);
        Check.due("others", x.count(Integer.MAX_VALUE), -1);
        Check.due("others", x.count(Integer.MIN_VALUE), -1);
        Check.due("none of them refused", x.status(1), 0);
    }
}
