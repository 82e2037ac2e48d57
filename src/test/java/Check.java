/** What the tests share: a call's answer beside the one that is due, and texts fed as bytes. */
final class Check {
    /** A call that is asked. */
    interface Call {
        long on(NearNothing x);
    }

    /** What is done ahead of it. */
    interface Step {
        void of(NearNothing x);
    }

    private static int wrong = 0;
    private static int asked = 0;

    private Check() {
    }

    static void due(String call, long got, long want) {
        asked++;
        if (got != want) {
            wrong++;
            System.out.println(call + " answered " + got + ", due is " + want);
        }
    }

    static void end() {
        System.out.println("  " + asked + " answers, " + wrong + " wrong");
        if (wrong > 0 || asked == 0) {
            System.exit(1);
        }
    }

    static int feed(NearNothing x, String text) {
        int has = x.count(8);
        for (int from = 0; from < text.length(); from += 8) {
            int n = Math.min(8, text.length() - from);
            has = x.feed(n, bytes(text.substring(from, from + n)));
        }
        return has;
    }

    static long bytes(String text) {
        long bytes = 0;
        for (int k = 0; k < text.length(); k++) {
            bytes |= (long) (text.charAt(k) & 255) << 8 * k;
        }
        return bytes;
    }

    static int rule(NearNothing x, String text) {
        feed(x, text);
        return x.rule();
    }
}
