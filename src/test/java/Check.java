/** Counts wrong answers; a test ends with finish(), which tells them and ends with 1 if there was one. */
final class Check {
    private static final int MOST_SHOWN = 40;
    private int asked = 0;
    private int wrong = 0;

    void due(String what, long got, long want) {
        asked++;
        if (got != want) {
            fail(what + " answered " + got + ", due is " + want);
        }
    }

    void due(String what, String got, String want) {
        asked++;
        if (!got.equals(want)) {
            fail(what + " answered " + got + ", due is " + want);
        }
    }

    void fail(String message) {
        wrong++;
        if (wrong <= MOST_SHOWN) {
            System.out.println(message);
        }
    }

    int wrong() {
        return wrong;
    }

    void finish() {
        System.out.println(asked + " answers looked at, " + wrong + " wrong");
        if (wrong != 0 || asked == 0) {
            System.exit(1);
        }
    }

    /** Puts a text in place of the one that was there. */
    static void lay(TailTrimmer x, String text) {
        x.feed(0, 0);
        for (int i = 0; i < text.length(); i += 8) {
            int n = Math.min(8, text.length() - i);
            long v = 0;
            for (int k = 0; k < n; k++) {
                v = v << 8 | text.charAt(i + k) & 255;
            }
            x.feed(v, n);
        }
    }

    static TailTrimmer reading(String text) {
        TailTrimmer x = new TailTrimmer();
        lay(x, text);
        int got = x.read();
        if (got < 0) {
            throw new IllegalStateException("read() answered " + got + " at " + x.place() + ": " + text);
        }
        return x;
    }

    static String written(TailTrimmer x, int which, int f) {
        int length = x.write(which, f);
        if (length < 0) {
            return "refused " + length;
        }
        return latest(x, length);
    }

    static String latest(TailTrimmer x, int length) {
        StringBuilder all = new StringBuilder();
        for (int i = 0; i < length; i++) {
            all.append((char) x.octet(i));
        }
        return all.toString();
    }

    /** Instructions as "kind number kind number ..". */
    static String code(TailTrimmer x, int which, int f) {
        StringBuilder all = new StringBuilder();
        for (int i = 0; i < x.function(which, f, 5); i++) {
            all.append(i == 0 ? "" : " ").append(x.code(which, f, i, 0)).append(' ').append(x.code(which, f, i, 1));
        }
        return all.toString();
    }

    static String times(String part, int count) {
        return part.repeat(count);
    }
}
