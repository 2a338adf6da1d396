/** Promises 37 to 40: images, refusals counted, and what is there. */
public final class ImagesTest {
    public static void main(String[] args) {
        images();
        imagesKeepWorks();
        imagesKeepEachWork();
        counts();
        Check.end();
    }

    private static void images() {
        CommaState x = Check.of("town 10 6 4;town 9 4 3;");
        Check.due("none", x.restore(), -1);
        Check.due("first", x.image(), 1);
        Check.work(x, "year;move 0 1 2;move 0 0 1;");
        Check.due("second", x.image(), 2);
        Check.work(x, "year;fly;school 1;vote;");
        Check.due("third", x.image(), 3);
        Check.due("no fourth", x.image(), -1);
        Check.due("three", x.count(0), 3);
        Check.work(x, "year;move 0 0 1;");
        Check.due("refused", x.told(9), 1);
        Check.due("restored", x.restore(), 2);
        Check.due("refused behind restore", x.told(9), 0);
        Check.due("year", x.told(2), 2);
        Check.due("comma", x.told(5), 0);
        Check.due("school", x.town(1, 5), 1);
        Check.due("votes", x.told(3), 1);
        Check.due("restored", x.restore(), 1);
        Check.due("year", x.told(2), 1);
        Check.due("comma", x.told(5), 1);
        Check.due("school", x.town(1, 5), 0);
        Check.due("votes", x.told(3), 0);
        Check.due("voters", x.town(0, 0), 8);
        Check.due("restored", x.restore(), 0);
        Check.due("voters", x.town(0, 0), 10);
        Check.due("works", x.count(2), 0);
        Check.due("none left", x.restore(), -1);
    }

    private static void imagesKeepWorks() {
        CommaState x = Check.of("town 10 6 4;town 9 4 3;");
        Check.work(x, "year;");
        Check.work(x, "year;");
        x.image();
        x.undo();
        x.undo();
        Check.work(x, "again 9[year;];");
        Check.law(x, "9");
        Check.book(x, "0 0;");
        Check.due("restored", x.restore(), 0);
        Check.due("law stays", x.town(0, 6), 9);
        Check.due("book stays", x.told(8), 1);
        Check.due("works are back", x.count(2), 2);
        Check.due("year", x.told(2), 2);
        Check.due("undo", x.undo(), 1);
        Check.due("year", x.told(2), 1);
        Check.due("undo", x.undo(), 0);
        Check.due("year", x.told(2), 0);
        for (int i = 0; i < 16; i++) {
            Check.work(x, "year;");
        }
        x.image();
        for (int i = 0; i < 16; i++) {
            x.undo();
        }
        x.restore();
        for (int i = 15; i >= 0; i--) {
            Check.due("undo to " + i, x.undo(), i);
            Check.due("year " + i, x.told(2), i);
        }
    }

    private static void imagesKeepEachWork() {
        CommaState x = Check.of("town 10 6 4;town 9 4 3;");
        Check.work(x, "year;");
        Check.work(x, "year;");
        x.image();
        x.undo();
        x.undo();
        Check.work(x, "fly;");
        Check.work(x, "move 0 1 2;");
        Check.work(x, "school 1;");
        Check.due("restored", x.restore(), 0);
        Check.due("undo", x.undo(), 1);
        Check.due("year", x.told(2), 1);
        Check.due("comma", x.told(5), 1);
        Check.due("undo", x.undo(), 0);
        Check.due("year", x.told(2), 0);
        Check.due("voters", x.town(0, 0), 10);
    }

    private static void counts() {
        CommaState x = new CommaState();
        x.image();
        Check.noSuch("town", () -> x.town(0, 0));
        Check.noSuch("road", () -> x.road(0, 0));
        Check.bad("told", () -> x.told(99));
        x.restore();
        Check.due("no image keeps it", x.status(0), 2);
        Check.due("nor that", x.status(1), 1);
        Check.state(x, "town 1 1 1;");
        Check.due("no state either", x.status(0), 2);
        Check.due("status 2", x.status(2), -1);
        Check.due("status -1", x.status(-1), -1);
        Check.due("count 3", x.count(3), -1);
        Check.due("count -1", x.count(-1), -1);
        Check.due("these are no refusals", x.status(1), 1);
        x.feed(0, 0, 0, 0, 0);
        Check.due("bytes", x.count(1), 20);
        x.image();
        Check.due("images", x.count(0), 1);
        Check.due("a faulty work", x.work(1), -9);
        Check.due("works", x.count(2), 0);
    }
}
