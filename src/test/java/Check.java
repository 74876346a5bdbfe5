import java.util.NoSuchElementException;

/** What the tests share: feeding texts, and counting answers that are not as due. */
final class Check {
    static final long THROWN = Long.MIN_VALUE;

    private int wrong;
    private int asked;

    void due(String call, long got, long want) {
        asked++;
        if (got != want) {
            wrong++;
            System.out.println(call + " answered " + got + ", due is " + want);
        }
    }

    void due(String call, boolean got, boolean want) {
        due(call, got ? 1 : 0, want ? 1 : 0);
    }

    int wrongSoFar() {
        return wrong;
    }

    int askedSoFar() {
        return asked;
    }

    /** Ends the test: exit code 1 if an answer was wrong. */
    void close(String name) {
        System.out.println(name + ": " + asked + " answers, " + wrong + " not as due");
        if (wrong != 0 || asked == 0) {
            System.exit(1);
        }
    }

    /** The tape has this text alone. */
    static void tape(DriftSea sea, String text) {
        sea.end(0);
        for (int at = 0; at < text.length(); at += 20) {
            int[] words = new int[5];
            for (int i = 0; i < 20; i++) {
                int sign = at + i < text.length() ? text.charAt(at + i) : 0;
                words[i / 4] = words[i / 4] << 8 | sign;
            }
            sea.feed(words[0], words[1], words[2], words[3], words[4]);
        }
    }

    static DriftSea sea(String text) {
        DriftSea sea = new DriftSea();
        tape(sea, text);
        sea.text(0);
        return sea;
    }

    /** A SEA with a PULL that holds. */
    static DriftSea sea(String text, String pull) {
        DriftSea sea = sea(text);
        rule(sea, pull);
        sea.pull(0);
        return sea;
    }

    static int rule(DriftSea sea, String text) {
        tape(sea, text);
        return sea.text(1);
    }

    static int faultOf(int sort, String text) {
        DriftSea sea = new DriftSea();
        tape(sea, text);
        return sea.fault(sort);
    }

    static long isle(DriftSea sea, int isle, int what) {
        try {
            return sea.isle(isle, what);
        } catch (NoSuchElementException e) {
            return THROWN;
        }
    }
}
