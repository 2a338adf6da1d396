/** What the tests share: texts fed, answers compared, and the closing line. */
final class Check {
    interface Call {
        long answer();
    }

    private static int passed = 0;
    private static int failed = 0;

    private Check() {
    }

    static void due(String what, long got, long want) {
        if (got == want) {
            passed++;
        } else {
            failed++;
            System.out.println(what + " answered " + got + ", due is " + want);
        }
    }

    static void noSuch(String what, Call call) {
        throwing(what, call, "NoSuchElementException");
    }

    static void bad(String what, Call call) {
        throwing(what, call, "IllegalArgumentException");
    }

    private static void throwing(String what, Call call, String want) {
        String got = "nothing";
        try {
            call.answer();
        } catch (RuntimeException e) {
            got = e.getClass().getSimpleName();
        }
        if (got.equals(want)) {
            passed++;
        } else {
            failed++;
            System.out.println(what + " throws " + got + ", due is " + want);
        }
    }

    /** Feeds a text in blocks of twenty bytes, the last one filled up with zeroes. */
    static void feed(CommaState x, String text) {
        for (int at = 0; at < text.length(); at += 20) {
            int[] n = new int[5];
            for (int i = 0; i < 20; i++) {
                int one = at + i < text.length() ? text.charAt(at + i) : 0;
                n[i / 4] = n[i / 4] << 8 | one;
            }
            x.feed(n[0], n[1], n[2], n[3], n[4]);
        }
    }

    static int state(CommaState x, String text) {
        feed(x, text);
        return x.state(text.length());
    }

    static int law(CommaState x, String text) {
        feed(x, text);
        return x.law(text.length());
    }

    static int work(CommaState x, String text) {
        feed(x, text);
        return x.work(text.length());
    }

    static int book(CommaState x, String text) {
        feed(x, text);
        return x.book(text.length());
    }

    static CommaState of(String text) {
        CommaState x = new CommaState();
        int towns = state(x, text);
        if (towns < 0) {
            due("state of " + text, towns, 0);
        }
        return x;
    }

    static String times(int n, String text) {
        return text.repeat(n);
    }

    static void end() {
        System.out.println(passed + " passed, " + failed + " failed");
        if (failed != 0 || passed == 0) {
            System.exit(1);
        }
    }
}
