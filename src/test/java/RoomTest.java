import com.sun.management.ThreadMXBean;
import java.lang.management.ManagementFactory;

/** No call makes an object, and a new CommaState is small: a run's calls live in one room. */
public final class RoomTest {
    private static final String EIGHT = "town 99 40 9;town 98 50 8;town 97 60 7;town 96 30 6;town 95 20 5;town 94 70 4;"
        + "town 93 33 3;town 92 46 2;road 0 1;road 1 2;road 2 3;road 3 4;road 4 5;road 5 6;road 6 7;road 0 7;road 0 2;road 0 3;road 0 4;";
    private static long sum = 0;

    public static void main(String[] args) {
        ThreadMXBean bean = (ThreadMXBean) ManagementFactory.getThreadMXBean();
        long self = Thread.currentThread().getId();
        CommaState x = new CommaState();
        CommaState[] made = new CommaState[100];
        calls(x);
        long before = bean.getThreadAllocatedBytes(self);
        for (int i = 0; i < 20; i++) {
            calls(x);
        }
        long behind = bean.getThreadAllocatedBytes(self);
        // Check.feed makes a row of five for each block, some 50 a round
        Check.due("bytes made by 20 rounds are few", behind - before < 200_000 ? 0 : behind - before, 0);
        before = bean.getThreadAllocatedBytes(self);
        for (int i = 0; i < made.length; i++) {
            made[i] = new CommaState();
        }
        behind = bean.getThreadAllocatedBytes(self);
        Check.due("bytes of 100 new ones are few", behind - before < 2_000_000 ? 0 : behind - before, 0);
        System.out.println("sum " + sum + ", " + (behind - before) / 100 + " bytes each");
        Check.end();
    }

    private static void calls(CommaState x) {
        sum += Check.state(x, EIGHT);
        sum += Check.law(x, "least[near*3-school,voters/9]-most[breathe%7,(year+town)*in]+votes%3");
        sum += Check.book(x, "0 1;3 1;5 0;");
        for (int i = 0; i < 17; i++) {
            sum += Check.work(x, "again 30[vote;fly;move 0 1 1;school 3;year;];");
        }
        for (int i = 0; i < 8; i++) {
            sum += x.town(i, 6) + x.swing(i) + x.given(i, 99) + x.odds(i, 7, 0) + x.bread(i, 255, 400) + x.most(i, 7 - i);
            sum += x.can(i, 7 - i, 3) ? 1 : 0;
        }
        for (int i = 0; i < 2; i++) {
            sum += x.turn(i, 0) + x.look(i) + x.closest(i) + x.safest(i) + x.lightest(i) + x.till(i) + x.drift(i);
            sum += x.seats(i) + x.sides(i) + x.speak(9, i) + x.ahead(99, i) + x.term(i, 8, 96, 0) + x.span(i, 20, 8, 96, 0);
        }
        for (int i = 0; i < 4; i++) {
            sum += x.image() + x.undo() + x.status(i) + x.count(i);
        }
        for (int i = 0; i < 4; i++) {
            sum += x.restore();
        }
        sum += x.league(129) + x.parts() + x.bridges() + x.margin() + x.commas(30, 5, 2) + x.road(3, 1);
        sum += x.would(9, 9, 9, 1, 1, 1, 1, 1, 1, 1) + x.told(10) + x.fault();
    }
}
