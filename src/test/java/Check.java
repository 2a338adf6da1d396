/** What the tests share: texts fed, answers compared, and the closing line. */
final class Check {
    interface Call {
        long answer();
    }

    private static int passed = 0;
    private static int failed = 0;

    private Check() {
    }

    static void due(String what, long got, long want) {
        if (got == want) {
            passed++;
        } else {
            failed++;
            System.out.println(what + " answered " + got + ", due is " + want);
        }
    }

    static void yes(String what, boolean holds) {
        due(what, holds ? 1 : 0, 1);
    }

    static void same(String what, String got, String want) {
        if (!got.equals(want)) {
            System.out.println(what + ": " + got + ", due is " + want);
        }
        yes(what, got.equals(want));
    }

    static void noSuch(String what, Call call) {
        throwing(what, call, "NoSuchElementException");
    }

    static void bad(String what, Call call) {
        throwing(what, call, "IllegalArgumentException");
    }

    private static void throwing(String what, Call call, String want) {
        String got = "nothing";
        try {
            call.answer();
        } catch (RuntimeException e) {
            got = e.getClass().getSimpleName();
        }
        if (got.equals(want)) {
            passed++;
        } else {
            failed++;
            System.out.println(what + " throws " + got + ", due is " + want);
        }
    }

    /** Feeds a text in blocks of twenty bytes, the last one filled up with zeroes. */
    static void feed(CommaState x, String text) {
        for (int at = 0; at < text.length(); at += 20) {
            int[] n = new int[5];
            for (int i = 0; i < 20; i++) {
                int one = at + i < text.length() ? text.charAt(at + i) : 0;
                n[i / 4] = n[i / 4] << 8 | one;
            }
            x.feed(n[0], n[1], n[2], n[3], n[4]);
        }
    }

    static int state(CommaState x, String text) {
        feed(x, text);
        return x.state(text.length());
    }

    static int law(CommaState x, String text) {
        feed(x, text);
        return x.law(text.length());
    }

    static int work(CommaState x, String text) {
        feed(x, text);
        return x.work(text.length());
    }

    static int book(CommaState x, String text) {
        feed(x, text);
        return x.book(text.length());
    }

    static CommaState of(String text) {
        CommaState x = new CommaState();
        int towns = state(x, text);
        if (towns < 0) {
            due("state of " + text, towns, 0);
        }
        return x;
    }

    /** Answers that show all of a state: two objects with the same ones can't be told apart by these calls. */
    static String shown(CommaState x) {
        StringBuilder all = new StringBuilder("fault " + x.fault() + " told");
        for (int what = 0; what <= 10; what++) {
            all.append(' ').append(x.told(what));
        }
        for (int town = 0; town < x.told(0); town++) {
            all.append(" town").append(town);
            for (int what = 0; what <= 6; what++) {
                all.append(' ').append(x.town(town, what));
            }
        }
        for (int road = 0; road < x.told(1); road++) {
            all.append(" road ").append(x.road(road, 0)).append(' ').append(x.road(road, 1));
        }
        all.append(" drift ").append(x.drift(0)).append(' ').append(x.drift(1)).append(' ').append(x.drift(2));
        for (int what = 0; what <= 2; what++) {
            all.append(" count ").append(x.count(what));
        }
        return all.toString();
    }

    /** Answers of the calls that reckon, to tell whether anything is left of an earlier state. */
    static String asked(CommaState x) {
        StringBuilder all = new StringBuilder();
        for (int i = 0; i <= 1; i++) {
            all.append(x.turn(0, i)).append(' ').append(x.turn(1, i)).append(' ').append(x.look(i)).append(' ');
            all.append(x.closest(i)).append(' ').append(x.safest(i)).append(' ').append(x.lightest(i)).append(' ');
            all.append(x.till(i)).append(' ').append(x.seats(i)).append(' ').append(x.sides(i)).append(' ');
        }
        for (int i = 0; i <= 2; i++) {
            all.append(x.speak(1, i)).append(' ').append(x.speak(9, i)).append(' ').append(x.ahead(3, i)).append(' ');
            all.append(x.term(5, 8, 40, i)).append(' ').append(x.span(7, 5, 8, 40, i)).append(' ');
        }
        int towns = x.told(0);
        int bits = (1 << towns) - 1;
        for (int t = 0; t < towns; t++) {
            all.append(x.swing(t)).append(' ').append(x.given(t, 9)).append(' ').append(x.bread(t, bits, 20)).append(' ');
            all.append(x.odds(t, 5, 0)).append(' ').append(x.most(t, towns - 1 - t)).append(' ');
        }
        all.append(x.league(bits)).append(' ').append(x.parts()).append(' ').append(x.bridges()).append(' ');
        return all.append(x.margin()).toString();
    }

    static String times(int n, String text) {
        return text.repeat(n);
    }

    static void end() {
        System.out.println(passed + " passed, " + failed + " failed");
        if (failed != 0 || passed == 0) {
            System.exit(1);
        }
    }
}
