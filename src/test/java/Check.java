import java.util.Arrays;
import java.util.NoSuchElementException;

/** What every test here uses: it counts wrong answers, prints them, and ends with exit code 1 if there was one. */
final class Check {
    private static int asked = 0;
    private static int wrong = 0;

    private Check() {
    }

    static void due(String what, int got, int want) {
        asked++;
        if (got != want) {
            fault(what + " answered " + got + ", due is " + want);
        }
    }

    static void due(String what, boolean got, boolean want) {
        asked++;
        if (got != want) {
            fault(what + " answered " + got + ", due is " + want);
        }
    }

    /** The ROW has just these numbers. */
    static void row(String what, EnginesAsleep x, int... want) {
        asked++;
        int[] got = rowOf(x);
        if (!Arrays.equals(got, want)) {
            fault(what + " has the row " + Arrays.toString(got) + ", due is " + Arrays.toString(want));
        }
    }

    static int[] rowOf(EnginesAsleep x) {
        int[] got = new int[x.count(10)];
        for (int i = 0; i < got.length; i++) {
            got[i] = x.row(i);
        }
        return got;
    }

    static void rowThrows(EnginesAsleep x, int i) {
        asked++;
        try {
            int got = x.row(i);
            fault("row(" + i + ") answered " + got + ", due is NoSuchElementException");
        } catch (NoSuchElementException e) {
            return;
        }
    }

    static void ofThrows(EnginesAsleep x, int engine, int what) {
        asked++;
        try {
            int got = x.of(engine, what);
            fault("of(" + engine + ", " + what + ") answered " + got + ", due is NoSuchElementException");
        } catch (NoSuchElementException e) {
            return;
        }
    }

    static void fault(String what) {
        wrong++;
        System.out.println(what);
    }

    /** THE TEXT becomes this, whatever it was. */
    static void text(EnginesAsleep x, String text) {
        x.end(0);
        for (int i = 0; i < text.length(); i += 4) {
            int v = 0;
            for (int j = 0; j < 4; j++) {
                v = v << 8 | (i + j < text.length() ? text.charAt(i + j) : 0);
            }
            x.sign(v);
        }
        x.end(text.length());
    }

    static int rule(EnginesAsleep x, String text) {
        text(x, text);
        return x.rule();
    }

    /** All that can be seen of an object without changing it, but for the ROW. */
    static String seen(EnginesAsleep x) {
        int[] row = rowOf(x);
        StringBuilder seen = new StringBuilder(Arrays.toString(row));
        for (int what = 0; what <= 11; what++) {
            seen.append(' ').append(x.count(what));
        }
        for (int engine = 0; engine < x.count(1); engine++) {
            for (int what = 0; what <= 6; what++) {
                seen.append(',').append(x.of(engine, what));
            }
            for (int stall = 0; stall < x.count(0); stall++) {
                seen.append(x.takes(stall, engine));
            }
        }
        for (int train = 0; train < x.count(4); train++) {
            for (int engine = 0; engine < x.count(1); engine++) {
                seen.append(x.fits(engine, train));
            }
        }
        return seen.append(' ').append(x.smoke()).append(' ').append(x.wrong()).toString();
    }

    static void same(String what, String before, String after) {
        asked++;
        if (!before.equals(after)) {
            fault(what + " changed what is seen from " + before + " to " + after);
        }
    }

    static void end() {
        if (asked == 0) {
            fault("nothing was asked");
        }
        System.out.println(wrong == 0 ? asked + " answers are as due" : wrong + " of " + asked + " answers are not as due");
        System.exit(wrong == 0 ? 0 : 1);
    }
}
