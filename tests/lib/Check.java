import java.util.Arrays;
import java.util.NoSuchElementException;

/** What the tests share: counting wrong answers, and telling texts to an object. */
final class Check {
    private String about = "";
    private int asked = 0;
    private int wrong = 0;

    void about(String what) {
        about = what;
    }

    int asked() {
        return asked;
    }

    void due(String call, long got, long want) {
        asked++;
        if (got != want) {
            fault(call + " answered " + got + ", due is " + want);
        }
    }

    void due(String call, boolean got, boolean want) {
        due(call, got ? 1 : 0, want ? 1 : 0);
    }

    /** An answer, and the ROW that comes with it. */
    void dueRow(NoHedgeTwice x, String call, long got, long want, int... row) {
        due(call, got, want);
        row(x, row);
    }

    void row(NoHedgeTwice x, int... want) {
        asked++;
        int[] got = rowOf(x);
        if (!Arrays.equals(got, want)) {
            fault("the ROW is " + Arrays.toString(got) + ", due is " + Arrays.toString(want));
        }
    }

    void noSuch(String call, Runnable made) {
        asked++;
        try {
            made.run();
            fault(call + " threw nothing, due is NoSuchElementException");
        } catch (NoSuchElementException due) {
            return;
        }
    }

    void fault(String what) {
        wrong++;
        System.out.println(about + ": " + what);
    }

    void close() {
        System.out.println(asked + " asked, " + wrong + " wrong");
        if (wrong != 0 || asked == 0) {
            System.exit(1);
        }
    }

    static int[] rowOf(NoHedgeTwice x) {
        int[] row = new int[Math.max(0, x.count(6))];
        for (int i = 0; i < row.length; i++) {
            row[i] = x.row(i);
        }
        return row;
    }

    /** Puts a text of at most 80 signs behind THE TEXT, which must have a multiple of 4 then. */
    static void say(NoHedgeTwice x, String text) {
        int before = x.count(7);
        for (int i = 0; i < text.length(); i += 4) {
            int v = 0;
            for (int k = i; k < i + 4; k++) {
                v = v << 8 | (k < text.length() ? text.charAt(k) & 255 : 0);
            }
            x.sign(v);
        }
        x.end(before + text.length());
    }

    static int land(NoHedgeTwice x, String text) {
        say(x, text);
        return x.land();
    }

    static int tour(NoHedgeTwice x, int i, String text) {
        say(x, text);
        return x.tour(i);
    }

    static NoHedgeTwice landed(String... texts) {
        NoHedgeTwice x = new NoHedgeTwice();
        for (String text : texts) {
            if (land(x, text) < 0) {
                throw new IllegalStateException("the test's own land is refused: " + text);
            }
        }
        return x;
    }
}
