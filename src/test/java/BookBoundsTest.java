/** A BOOK, DRIFT and LOOK: a test for each boundary that a sentence names. */
public final class BookBoundsTest {
    private static final String TWO = "town 9 5 2;town 9 4 3;";

    public static void main(String[] args) {
        bytesOfABook();
        linesOfABook();
        townsOnce();
        parties0To2();
        faultPlaces();
        theBookStays();
        driftEdges();
        driftOfNone();
        driftOfAll();
        driftByWhoBreathesNow();
        lookAtTheWorst();
        lookAtTheFirst();
        lookOfNone();
        Check.end();
    }

    private static CommaState fine(String state, String book, int lines) {
        CommaState x = Check.of(state);
        Check.due("book " + book, Check.book(x, book), lines);
        Check.due("no fault of book " + book, x.fault(), -1);
        Check.due("lines of book " + book, x.told(8), lines);
        return x;
    }

    private static void faulty(String book, int answer, int place) {
        CommaState x = Check.of(TWO);
        Check.book(x, "1 1;");
        Check.due("book " + book, Check.book(x, book), answer);
        Check.due("fault of book " + book, x.fault(), place);
        Check.due("lines stay behind " + book, x.told(8), 1);
        Check.due("the line stays behind " + book, x.drift(2), 0);
        Check.due("look stays behind " + book, x.look(0), 0);
        Check.due("the tape is empty behind " + book, x.count(1), 0);
    }

    private static void bytesOfABook() {
        fine(TWO, " ".repeat(56) + "1 0;", 1);
        faulty(" ".repeat(57) + "1 0", -9, 60);
        CommaState x = Check.of(TWO);
        Check.feed(x, "0 1;" + " ".repeat(76));
        Check.bad("61", () -> x.book(61));
        Check.due("the tape stays", x.count(1), 80);
        Check.due("60 of 80", x.book(60), 1);
        Check.due("the tape is empty then", x.count(1), 0);
        Check.bad("1 of 0", () -> x.book(1));
        Check.bad("-1", () -> x.book(-1));
        Check.due("lines stay", x.told(8), 1);
    }

    private static void linesOfABook() {
        fine(TWO, "", 0);
        fine(TWO, "   ", 0);
        fine("", "", 0);
        fine("town 1 0 1;".repeat(8), "7 1;6 1;5 1;4 1;3 1;2 1;1 1;0 1;", 8);
        CommaState x = fine(TWO, "0 1;1 1;", 2);
        Check.due("a new book is the book", Check.book(x, "1 0;"), 1);
        Check.due("one line", x.told(8), 1);
        Check.due("by it alone", x.drift(1), 1);
    }

    private static void townsOnce() {
        fine(TWO, "1 1;0 1;", 2);
        faulty("0 1;0 1;", -8, 4);
        faulty("0 1;0 2;", -8, 4);
        faulty("0 1;1 1;  0 1;", -8, 10);
        faulty("1 1;01 1;", -8, 4);
        faulty("2 1;", -8, 0);
        faulty("4294967296 1;", -8, 0);
        CommaState none = new CommaState();
        Check.due("no towns", Check.book(none, "0 1;"), -8);
        Check.due("at T", none.fault(), 0);
        CommaState x = Check.of("town 1 0 1;".repeat(8));
        Check.due("town 8 of 8", Check.book(x, "8 1;"), -8);
    }

    private static void parties0To2() {
        Check.due("0", fine(TWO, "0 0;", 1).drift(1), 0);
        Check.due("1", fine(TWO, "0 1;", 1).drift(2), -1);
        Check.due("2", fine("town 8 4 1;", "0 2;", 1).drift(0), 1);
        faulty("0 3;", -8, 2);
        faulty("0 00003;", -8, 2);
    }

    private static void faultPlaces() {
        faulty("0", -9, 1);
        faulty("0 ", -9, 2);
        faulty("0 1", -9, 3);
        faulty("0 1 ", -9, 4);
        faulty("0;", -9, 1);
        faulty("0 1;;", -9, 4);
        faulty("0 1 1;", -9, 4);
        faulty("0,1;", -9, 1);
        faulty("town 0;", -9, 0);
        faulty("0 x;", -9, 2);
        faulty("01;", -9, 2);
        faulty("0 1;0 x;", -8, 4);
        faulty("0 3;0 1;", -8, 2);
    }

    private static void theBookStays() {
        CommaState x = fine(TWO, "0 0;1 1;", 2);
        Check.work(x, "vote;move 0 1 1;");
        x.image();
        x.undo();
        x.restore();
        Check.law(x, "5");
        Check.due("by work, undo, restore and law", x.told(8), 2);
        Check.due("a faulty state", Check.state(x, "x"), -9);
        Check.due("leaves it", x.told(8), 2);
        Check.due("a new state", Check.state(x, TWO), 2);
        Check.due("has none", x.told(8), 0);
        Check.due("no line counts", x.drift(0), 81);
        Check.due("nor is a town in a line", x.look(0), 0);
    }

    private static void drift(String state, String book, int many, int least, int greatest) {
        CommaState x = fine(state, book, lines(book));
        Check.due("drifts of " + state + book, x.drift(0), many);
        Check.due("least of " + state + book, x.drift(1), least);
        Check.due("greatest of " + state + book, x.drift(2), greatest);
    }

    private static int lines(String book) {
        return book.isEmpty() ? 0 : book.split(";").length;
    }

    private static void driftEdges() {
        drift("town 79 0 1;", "0 0;", 1, 40, 40);
        drift("town 80 0 1;", "0 0;", 0, -41, -41);
        drift("town 80 0 1;", "0 2;", 1, 40, 40);
        drift("town 82 0 1;", "0 2;", 0, -41, -41);
        drift("town 79 79 1;", "0 1;", 1, -40, -40);
        drift("town 80 80 1;", "0 1;", 0, -41, -41);
        drift("town 80 80 1;", "0 2;", 1, -40, -40);
        drift("town 82 82 1;", "0 2;", 0, -41, -41);
        drift("town 99 0 1;", "0 1;", 81, -40, 40);
        drift("town 99 99 1;", "0 0;", 81, -40, 40);
        drift("town 1 0 1;", "0 0;", 40, 1, 40);
        drift("town 1 0 1;", "0 1;", 41, -40, 0);
        drift("town 1 1 1;", "0 0;", 41, 0, 40);
        drift("town 1 1 1;", "0 1;", 40, -40, -1);
        drift("town 1 1 1;", "0 2;", 0, -41, -41);
        drift("town 2 1 1;", "0 2;", 1, 0, 0);
    }

    private static void driftOfNone() {
        drift("town 9 9 1;town 9 0 1;", "0 1;1 0;", 0, -41, -41);
        drift("town 9 9 1;town 9 0 1;", "0 1;", 36, -40, -5);
        drift("town 9 9 1;town 9 0 1;", "1 0;", 36, 5, 40);
        drift("town 9 9 1;town 9 0 1;", "0 0;1 1;", 9, -4, 4);
    }

    private static void driftOfAll() {
        drift(TWO, "", 81, -40, 40);
        drift("", "", 81, -40, 40);
    }

    private static void driftByWhoBreathesNow() {
        CommaState x = fine(TWO, "0 0;", 1);
        Check.due("as told", x.drift(1), 0);
        Check.work(x, "move 0 1 2;");
        Check.due("3 of 7 are now", x.drift(1), 1);
        Check.due("nothing stays changed", x.town(0, 1), 3);
        x.undo();
        Check.due("as told again", x.drift(1), 0);
    }

    private static void look(String state, String book, int town, int left) {
        CommaState x = fine(state, book, lines(book));
        Check.due("look of " + state + book, x.look(0), town);
        Check.due("left of " + state + book, x.look(1), left);
    }

    private static void lookAtTheWorst() {
        // d below -4 or from -4 on: 36 and 45; from 0 on: 40 and 41
        look("town 9 9 1;town 9 5 1;", "", 1, 41);
        look("town 9 5 1;town 9 9 1;", "", 0, 41);
        // 40, 1 and 40: neither counts as well
        look("town 9 5 1;town 8 4 1;", "", 1, 40);
        // -4 to 4 are left: all by town 2, 5 at the worst by town 3
        look("town 9 9 1;town 9 0 1;town 99 0 1;town 9 5 1;", "0 0;1 1;", 3, 5);
        // d 0 alone is left, by which town 1 goes to neither
        look("town 2 1 1;town 4 2 1;", "0 2;", 1, 1);
        // a town that can't go elsewhere leaves all
        look("town 99 0 1;town 99 99 1;", "", 0, 81);
    }

    private static void lookAtTheFirst() {
        look("town 9 5 1;town 9 4 1;", "", 0, 41);
        look("town 9 4 1;town 9 5 1;town 9 4 1;", "0 1;", 1, 40);
        look("town 9 4 1;town 9 9 1;town 9 9 1;", "1 0;", 0, 40);
        look("town 9 9 1;town 9 0 1;town 9 1 1;town 9 5 1;", "0 1;1 0;", 2, 0);
    }

    private static void lookOfNone() {
        look("", "", -1, -1);
        look("town 9 5 1;", "0 0;", -1, -1);
        look("town 9 5 1;town 9 5 1;", "1 2;0 2;", -1, -1);
        look("town 9 5 1;town 9 5 1;", "1 0;", 0, 41);
        CommaState x = fine("town 9 5 1;".repeat(8), "0 0;1 0;2 0;3 0;4 0;5 0;6 0;", 7);
        for (int i = 0; i < 3; i++) {
            Check.due("the last of eight", x.look(0), 7);
            Check.due("as many each time", x.look(1), 41);
        }
    }
}
