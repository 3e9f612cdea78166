/** What the tests share: holds answers against what is due, and tells texts to an object. */
final class Check {
    private int wrong = 0;
    private int held = 0;
    private String part = "";

    void part(String name) {
        part = name;
    }

    void due(String what, long got, long want) {
        held++;
        if (got != want) {
            wrong++;
            System.out.println(part + ": " + what + " answered " + got + ", due is " + want);
        }
    }

    void holds(String what, boolean is) {
        due(what, is ? 1 : 0, 1);
    }

    /** Ends the test, with exit code 1 if an answer was wrong. */
    void end() {
        System.out.println(held + " answers held, " + wrong + " wrong");
        if (wrong != 0 || held == 0) {
            System.exit(1);
        }
    }

    static void put(ThirtyBirds x, String text) {
        for (int i = 0; i < text.length(); i++) {
            x.feed(text.charAt(i));
        }
    }

    static int tell(ThirtyBirds x, String text) {
        put(x, text);
        return x.flight();
    }

    static ThirtyBirds told(String text) {
        ThirtyBirds x = new ThirtyBirds();
        tell(x, text);
        return x;
    }

    /** All that can be seen of an object without changing it, but for status() and what rows hold. */
    static String seen(ThirtyBirds x) {
        StringBuilder s = new StringBuilder();
        for (int what = 0; what < 8; what++) {
            s.append(x.count(what)).append(' ');
        }
        for (int bird = 0; bird < x.count(2); bird++) {
            s.append('|').append(x.kind(bird));
            for (int what = 0; what < 6; what++) {
                s.append(' ').append(x.bird(bird, what));
            }
        }
        for (int valley = 0; valley < x.count(1); valley++) {
            for (int what = 0; what < 3; what++) {
                s.append(" v").append(x.valley(valley, what));
            }
        }
        for (int i = 0; i <= 16; i++) {
            s.append(" t").append(x.trace(i));
        }
        return s.append(" f").append(x.fault()).toString();
    }
}
