/** What the tests share: answers that are due, the findings, and texts on the tape. */
final class Check {
    static final int BEYOND = -100001;
    static final int MISSING = -100002;
    static final int SIZE = -100003;
    static final int KIND = -100004;
    static final int FULL = -100005;
    static final int NONE = -100006;
    static final int TAKEN = -100007;

    private static int wrong = 0;
    private static int asked = 0;

    private Check() {
    }

    static void due(String call, long got, long want) {
        asked++;
        if (got != want) {
            wrong++;
            System.out.println(asker() + ": " + call + " answered " + got + ", due is " + want);
        }
    }

    /** The line of the test itself, not that of a helper. */
    private static StackTraceElement asker() {
        StackTraceElement[] at = new Throwable().getStackTrace();
        for (StackTraceElement e : at) {
            if (!e.getClassName().equals("Check") && !e.getClassName().equals("Twins")) {
                return e;
            }
        }
        return at[0];
    }

    /** Ends the test, with exit code 1 if an answer was wrong. */
    static void end() {
        System.out.println(wrong == 0 ? asked + " answers, all as due" : wrong + " answers of " + asked + " are not as due");
        if (wrong != 0) {
            System.exit(1);
        }
    }

    static void feed(DebtYear x, String text) {
        for (int from = 0; from < text.length(); from += 8) {
            int n = Math.min(8, text.length() - from);
            x.feed(n, bytes(text.substring(from, from + n)));
        }
    }

    static long bytes(String chunk) {
        long bytes = 0;
        for (int i = 0; i < chunk.length(); i++) {
            bytes |= (long) (chunk.charAt(i) & 255) << 8 * i;
        }
        return bytes;
    }

    static int text(DebtYear x, int t, String text) {
        feed(x, text);
        return x.text(t);
    }

    /** A law of both benches from year 0 on. */
    static void rule(DebtYear x, String falls, String back, String loan) {
        String text = "falls " + falls + ";back " + back + ";loan " + loan + ";";
        due("text of " + text, text(x, 0, text), -1);
        x.force(0, 0, 0);
        x.force(0, 1, 0);
    }
}
