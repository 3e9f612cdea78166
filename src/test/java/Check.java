import java.util.function.IntUnaryOperator;

/** What the tests share: holds answers against what is due, and tells texts to an object. */
final class Check {
    /** A flight by which asked() tells what an item is: whom its only valley leaves flying, by what it asks. */
    static final String READER = "f0;v0,0;h1,0,0;h2,0,0;h3,0,0;h4,0,0;h5,0,0;h6,0,0;";

    private int wrong = 0;
    private int held = 0;
    private String part = "";

    void part(String name) {
        part = name;
    }

    void due(String what, long got, long want) {
        held++;
        if (got != want) {
            wrong++;
            System.out.println(part + ": " + what + " answered " + got + ", due is " + want);
        }
    }

    void holds(String what, boolean is) {
        due(what, is ? 1 : 0, 1);
    }

    /** Each number from the least to the most is taken; what lies one beyond either, or far off, is refused. */
    void span(String call, int least, int most, int refusal, IntUnaryOperator on) {
        for (int number = least; number <= most; number++) {
            holds(call + " takes " + number, on.applyAsInt(number) != refusal);
        }
        due(call + ", one too small: " + (least - 1), on.applyAsInt(least - 1), refusal);
        due(call + ", one too large: " + (most + 1), on.applyAsInt(most + 1), refusal);
        due(call + ", the least int", on.applyAsInt(Integer.MIN_VALUE), refusal);
        due(call + ", the largest int", on.applyAsInt(Integer.MAX_VALUE), refusal);
    }

    /** What asked() answers of an item in the READER flight; only 0, 32, 48, 56, 60, 62 and 63 can be told apart. */
    void item(ThirtyBirds x, int row, int i, int want) {
        int asks = 0;
        for (int ask = 0; ask <= 20; ask++) {
            asks |= (ask < 2 ? 63 : 63 << ask - 1 & 63) == want ? 1 << ask : 0;
        }
        holds(want + " can be read", asks != 0);
        due("item " + i + " of row " + row + " is " + want + ": asked()", x.asked(row, i, 1), asks);
    }

    void items(ThirtyBirds x, int row, int... want) {
        for (int i = 0; i < want.length; i++) {
            item(x, row, i, want[i]);
        }
    }

    /** Ends the test, with exit code 1 if an answer was wrong. */
    void end() {
        System.out.println(held + " answers held, " + wrong + " wrong");
        if (wrong != 0 || held == 0) {
            System.exit(1);
        }
    }

    static void put(ThirtyBirds x, String text) {
        for (int i = 0; i < text.length(); i++) {
            x.feed(text.charAt(i));
        }
    }

    static int tell(ThirtyBirds x, String text) {
        put(x, text);
        return x.flight();
    }

    static ThirtyBirds told(String text) {
        ThirtyBirds x = new ThirtyBirds();
        tell(x, text);
        return x;
    }

    /** All that can be seen of an object without changing it, but for status() and what rows hold; in few calls. */
    static String seen(ThirtyBirds x) {
        StringBuilder s = new StringBuilder();
        int[] counts = new int[8];
        for (int what = 0; what < 8; what++) {
            counts[what] = x.count(what);
            s.append(counts[what]).append(' ');
        }
        for (int bird = 0; bird < counts[2]; bird++) {
            s.append('|').append(x.kind(bird));
            for (int what = 0; what < 6; what++) {
                s.append(' ').append(x.bird(bird, what));
            }
        }
        for (int valley = 0; valley < counts[1]; valley++) {
            for (int what = 0; what < 3; what++) {
                s.append(" v").append(x.valley(valley, what));
            }
        }
        int body = x.trace(0);
        for (int i = 1; i <= 17 && body != ThirtyBirds.NONE; i++) {
            s.append(" t").append(body);
            body = x.trace(i);
        }
        return s.append(" f").append(x.fault()).toString();
    }
}
