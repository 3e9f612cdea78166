import java.util.function.IntUnaryOperator;

/** The boundaries that the document names of what is foretold (promises 17 to 29), sentence by sentence. */
public final class ForetoldEdgesTest {
    private static final int NONE = ThirtyBirds.NONE, BAD = ThirtyBirds.BAD, STATE = ThirtyBirds.STATE;
    private static final int PLACE = -1000012;
    private static final String WEAK = "h0,0,0;";
    private static final Check CHECK = new Check();

    public static void main(String[] args) {
        whereInTheRow();
        strengthBehindK();
        orderK();
        orderOfSeveralTheFirst();
        orderByWhichMostArrive();
        keepTheFewest();
        keepOfSeveralTheLeast();
        wholeForM();
        mealOfSeveralTheFirst();
        catchOthersFewer();
        belovedByMost();
        rowOfNValleys();
        sortsByBits();
        leavingByBits();
        askedByBits();
        stormByTenths();
        stormFiveLess();
        stormNumbers();
        flocksByDraws();
        flocksNumbers();
        nobodyFlies();
        noBirdIsTold();
        noValleyComes();
        CHECK.end();
    }

    private static void due(String call, int got, int want) {
        CHECK.due(call, got, want);
    }

    /** Bird i turns back in valley i; bird 5 arrives. */
    private static void whereInTheRow() {
        CHECK.part("WHERE: its place, THROUGH ones counted, 0 on; NONE: it arrives; -1: it turned back already");
        ThirtyBirds x = Check.told("f0;v2,0;v4,0;v6,0;v8,0;v10,0;h1,0,0;h3,0,0;h5,0,0;h7,0,0;h9,0,0;h10,0,0;");
        for (int through = 0; through <= 5; through++) {
            for (int bird = 0; bird < 6; bird++) {
                int want = bird < through ? -1 : bird < 5 ? bird : NONE;
                due("where(" + bird + ") behind " + through, x.where(bird), want);
            }
            due("arrive() behind " + through, x.arrive(), 32);
            due("fly()", x.fly(), through < 5 ? 63 << through + 1 & 63 : STATE);
        }
        CHECK.span("where", 0, 5, BAD, x::where);
        CHECK.part("WHERE: of one that was called");
        due("call(0)", x.call(0), 33);
        due("where(0), none comes", x.where(0), NONE);
        x.undo();
        x.undo();
        x.call(0);
        due("where(0), the last comes", x.where(0), 4);
    }

    private static void strengthBehindK() {
        CHECK.part("STRENGTH behind k (0 to 5; no more than come: as many as come) valleys more");
        for (int valleys = 1; valleys <= 5; valleys++) {
            ThirtyBirds x = Check.told("f0;" + "v1,1;".repeat(valleys) + "h20,0,0;h2,0,0;");
            for (int through = 0; through <= valleys; through++) {
                for (int k = 0; k <= 5; k++) {
                    int flown = Math.min(through + k, valleys);
                    due("strength(0, " + k + ") behind " + through, x.strength(0, k), 20 - flown);
                    due("strength(1, " + k + "), that turns back in the second", x.strength(1, k), Math.max(0, 2 - flown));
                }
                x.fly();
            }
            CHECK.span("strength(0, ..)", 0, 5, BAD, k -> x.strength(0, k));
            CHECK.span("strength(.., 0)", 0, 1, BAD, bird -> x.strength(bird, 0));
        }
    }

    private static void orderK() {
        CHECK.part("order: how many (k = -1), the k-th (0 on; NONE: fewer come). BAD: k not -1 to 4");
        for (int valleys = 1; valleys <= 5; valleys++) {
            ThirtyBirds x = Check.told("f0;" + "v0,0;".repeat(valleys) + "h9,0,0;h8,0,0;");
            for (int through = 0; through <= valleys; through++) {
                due("order(-1)", x.order(-1), 2);
                for (int k = 0; k <= 4; k++) {
                    due("order(" + k + ")", x.order(k), through + k < valleys ? through + k : NONE);
                }
                x.fly();
            }
            CHECK.span("order", -1, 4, BAD, x::order);
        }
        all("order() without a flight: STATE is ahead of BAD", STATE, new ThirtyBirds()::order, -2, -1, 0, 4, 5);
    }

    private static void orderOfSeveralTheFirst() {
        CHECK.part("ORDER: of several the first (by numbers, from the next on)");
        ThirtyBirds x = Check.told("f0;v0,0;v0,0;v0,0;v0,0;v0,0;h9,0,0;");
        x.swap();
        x.fly();
        x.swap();
        x.fly();
        // 1 and 2 are behind; 0, 3 and 4 come.
        x.swap();
        int[] want = {0, 3, 4, NONE, NONE};
        for (int k = 0; k < 5; k++) {
            due("order(" + k + ")", x.order(k), want[k]);
        }
        CHECK.part("ORDER: of several that let as many arrive, others than as they come");
        // The hawk must meet valley 2 ahead of one of the others: 0 2 1 is the first of those.
        ThirtyBirds y = Check.told("f0;v0,1;v0,1;v9,1;h11,0,0;");
        due("arrive()", y.arrive(), 0);
        orderIs(y, 1, 0, 2, 1);
    }

    private static void orderIs(ThirtyBirds x, int most, int... valleys) {
        due("order(-1)", x.order(-1), most);
        for (int k = 0; k < valleys.length; k++) {
            due("order(" + k + ")", x.order(k), valleys[k]);
        }
    }

    /** For each of the 120 orders a flight in which that one alone lets the hawk arrive. */
    private static void orderByWhichMostArrive() {
        CHECK.part("ORDER: that by which most ARRIVE");
        int orders = 0;
        for (int number = 0; number < 100000; number++) {
            int[] line = {number / 10000, number / 1000 % 10, number / 100 % 10, number / 10 % 10, number % 10};
            int seen = 0;
            int[] asks = new int[5];
            for (int j = 0; j < 5; j++) {
                seen |= 1 << line[j];
                asks[line[j] % 5] = 15 - j;
            }
            if (seen == 31) {
                orders++;
                String text = "f0;";
                for (int ask : asks) {
                    text += "v" + ask + ",1;";
                }
                orderIs(Check.told(text + "h16,0,0;"), 1, line);
            }
        }
        due("orders", orders, 120);
    }

    private static void keepTheFewest() {
        CHECK.part("KEEP: so that all that fly now ARRIVE: the fewest");
        for (int weak = 0; weak <= 6; weak++) {
            ThirtyBirds x = Check.told("f0;v1,0;v0,0;" + WEAK.repeat(weak) + "h9,0,0;".repeat(6 - weak));
            due("toKeep(0)", x.toKeep(0), weak);
            due("toKeep(1)", x.toKeep(1), (1 << weak) - 1);
            for (int kept = 0; kept < weak; kept++) {
                x.keep(kept, 1);
                due("toKeep(0), kept ones are not told", x.toKeep(0), weak - kept - 1);
                due("toKeep(1)", x.toKeep(1), (1 << weak) - (2 << kept));
            }
        }
        ThirtyBirds y = Check.told("f0;v1,0;v1,0;" + WEAK + "h9,1,0;" + WEAK + "h9,0,0;");
        due("fly()", y.fly(), 8);
        due("toKeep(0), those that turned back are not told", y.toKeep(0), 0);
        due("toKeep(1)", y.toKeep(1), 0);
        due("call(1)", y.call(1), 10);
        due("toKeep(1), one that leaves by those of before", y.toKeep(1), 2);
        due("toKeep(0)", y.toKeep(0), 1);
        CHECK.span("toKeep", 0, 1, BAD, y::toKeep);
    }

    private static void keepOfSeveralTheLeast() {
        CHECK.part("KEEP, WHOLE: of several the least");
        ThirtyBirds x = Check.told("f0;v1,0;h9,0,0;" + WEAK.repeat(3));
        due("whole(2, 1), 2 of 2, 4, 8", x.whole(2, 1), 2);
        due("whole(3, 1), 6 of 6, 10, 12", x.whole(3, 1), 6);
        // 1 and 2 (6) or 0 and 3 (9), but not 0 with 1 or 2: the least number, not the first bird.
        ThirtyBirds y = Check.told("f0;v7,2;v8,2;n9,0,2;p8,0,3;p0,1,1;p5,0,2;");
        due("whole(3, 0)", y.whole(3, 0), 2);
        due("whole(3, 1)", y.whole(3, 1), 6);
        y.keep(0, 1);
        y.keep(3, 1);
        due("arrive(), by the other set", y.arrive(), 11);
        // Fewer birds are ahead of a lesser number: the last alone, not the first two.
        ThirtyBirds z = Check.told("f0;v1,0;h9,1,0;h9,1,0;" + WEAK);
        due("toKeep(0)", z.toKeep(0), 1);
        due("toKeep(1)", z.toKeep(1), 4);
        due("whole(2, 1)", z.whole(2, 1), 4);
    }

    private static void wholeForM() {
        CHECK.part("WHOLE for m (0 to 6): the fewest so KEPT that m, or more, ARRIVE; NONE");
        for (int birds = 0; birds <= 6; birds++) {
            ThirtyBirds x = Check.told("f0;v1,0;" + WEAK.repeat(birds));
            for (int m = 0; m <= 6; m++) {
                due("whole(" + m + ", 0) of " + birds, x.whole(m, 0), m <= birds ? m : NONE);
                due("whole(" + m + ", 1) of " + birds, x.whole(m, 1), m <= birds ? (1 << m) - 1 : NONE);
            }
            CHECK.span("whole(.., 0)", 0, 6, BAD, m -> x.whole(m, 0));
            CHECK.span("whole(0, ..)", 0, 1, BAD, what -> x.whole(0, what));
        }
        ThirtyBirds y = Check.told("f0;v1,0;h9,0,0;h9,0,0;" + WEAK);
        due("whole(2, 0), two arrive so", y.whole(2, 0), 0);
        due("whole(2, 1)", y.whole(2, 1), 0);
        due("whole(3, 0)", y.whole(3, 0), 1);
    }

    private static void mealOfSeveralTheFirst() {
        CHECK.part("MEAL: by which most ARRIVE, of several the first");
        for (int first = 0; first < 6; first++) {
            // From the first that a meal helps on, each is helped by one.
            ThirtyBirds x = Check.told("f3;v5,0;" + "h1,0,0;".repeat(first) + "h2,0,0;".repeat(6 - first));
            due("meal(0)", x.meal(0), first);
            due("meal(1)", x.meal(1), 1);
        }
        due("meal(0), none is helped", Check.told("f3;v5,0;h1,0,0;h1,0,0;").meal(0), 0);
        due("meal(1), none is helped", Check.told("f3;v5,0;h1,0,0;h1,0,0;").meal(1), 0);
        due("meal(0), all arrive so", Check.told("f0;v5,0;h5,0,0;h6,0,0;").meal(0), 0);
        due("meal(1), all arrive so", Check.told("f0;v5,0;h5,0,0;h6,0,0;").meal(1), 2);
        due("meal(0), the last helps two more", Check.told("f1;v5,0;h4,0,0;h9,2,0;h9,2,0;h4,0,0;").meal(0), 0);
        due("meal(0), another holds two", Check.told("f1;v5,0;h3,0,0;h9,2,0;h9,2,0;h4,0,0;").meal(0), 3);
        due("meal(1), another holds two", Check.told("f1;v5,0;h3,0,0;h9,2,0;h9,2,0;h4,0,0;").meal(1), 3);
        CHECK.part("MEAL: the bird that flies, FED once now");
        ThirtyBirds y = Check.told("f2;v5,0;v5,0;h3,0,0;h5,0,0;");
        due("fly(): 1 flies", y.fly() & 2, 2);
        due("meal(0), 0 does not fly", y.meal(0), 1);
        due("meal(1)", y.meal(1), 1);
        due("meal(1), once, not twice", Check.told("f2;v5,0;h2,0,0;").meal(1), 0);
        due("meal(1), once", Check.told("f2;v5,0;h3,0,0;").meal(1), 1);
        CHECK.span("meal", 0, 1, BAD, y::meal);
    }

    private static void catchOthersFewer() {
        CHECK.part("CATCH: how many others fewer ARRIVE, did it turn back now");
        for (int followers = 0; followers <= 5; followers++) {
            ThirtyBirds x = Check.told("f0;v0,0;h9,0,0;" + "h9,1,0;".repeat(followers) + "h9,0,0;".repeat(5 - followers));
            due("catches(0)", x.catches(0), followers);
        }
        due("itself is not counted", Check.told("f0;v0,0;h9,0,0;").catches(0), 0);
        due("one that arrives in neither", Check.told("f0;v1,0;h9,0,0;" + WEAK).catches(0), 0);
        CHECK.part("CATCH: counted as one that turned back");
        due("by LEAVES 1", Check.told("f0;v0,0;h9,0,0;h9,1,0;").catches(0), 1);
        due("by LEAVES 2", Check.told("f0;v0,0;h9,0,0;h9,2,0;").catches(0), 0);
        due("by LEAVES 2, one turns back there", Check.told("f0;v1,0;h9,0,0;h9,2,0;" + WEAK).catches(0), 1);
        due("of a dove by one more", Check.told("f0;v5,0;h9,0,0;d5,0,5;").catches(0), 1);
        due("of a dove that can bear it", Check.told("f0;v5,0;h9,0,0;d6,0,5;").catches(0), 0);
        CHECK.part("CATCH: of one that is KEPT, of others that are");
        ThirtyBirds y = Check.told("f0;v0,0;v0,0;h9,0,0;h9,1,0;");
        y.keep(0, 1);
        due("catches(0)", y.catches(0), 1);
        y.keep(1, 1);
        due("catches(0)", y.catches(0), 0);
        CHECK.part("CATCH: STATE: it does not fly");
        ThirtyBirds z = Check.told("f0;v1,0;v0,0;h9,0,0;" + WEAK);
        due("catches(1)", z.catches(1), 0);
        z.fly();
        due("catches(1)", z.catches(1), STATE);
        due("catches(2), BAD", z.catches(2), BAD);
        CHECK.span("catches", 0, 1, BAD, z::catches);
    }

    private static void belovedByMost() {
        CHECK.part("BELOVED: the bird that most that fly LOVE, of several the first");
        for (int loved = 0; loved < 6; loved++) {
            ThirtyBirds x = Check.told("f0;v0,0;" + ("h9,0," + loved + ";").repeat(6));
            due("beloved(0)", x.beloved(0), loved);
            due("beloved(1), themselves not counted", x.beloved(1), 5);
        }
        belovedIs("h9,0,1;h9,0,0;", 0, 1);
        belovedIs("h9,0,2;h9,0,2;h9,0,1;h9,0,1;", 1, 2);
        belovedIs("h9,0,2;h9,0,2;h9,0,1;", 2, 2);
        CHECK.part("BELOVED: themselves not counted; it must be there; NONE: none is loved");
        belovedIs("h9,0,0;", NONE, NONE);
        belovedIs("h9,0,0;h9,0,1;h9,0,2;", NONE, NONE);
        belovedIs("h9,0,1;", NONE, NONE);
        belovedIs("h9,0,2;h9,0,2;", NONE, NONE);
        belovedIs("h9,0,3;h9,0,3;h9,0,0;", 0, 1);
        CHECK.part("BELOVED: that fly; it need not fly");
        ThirtyBirds x = Check.told("f0;v1,0;h9,0,3;h0,0,2;h0,0,0;h0,0,2;");
        due("beloved(0), all fly", x.beloved(0), 2);
        due("beloved(1), all fly", x.beloved(1), 2);
        due("fly()", x.fly(), 1);
        due("beloved(0), 0 alone flies", x.beloved(0), 3);
        due("beloved(1)", x.beloved(1), 1);
        CHECK.span("beloved", 0, 1, BAD, x::beloved);
    }

    private static void belovedIs(String birds, int which, int byHowMany) {
        ThirtyBirds x = Check.told("f0;v0,0;" + birds);
        due("beloved(0) of " + birds, x.beloved(0), which);
        due("beloved(1) of " + birds, x.beloved(1), byHowMany);
    }

    private static void rowOfNValleys() {
        CHECK.part("A row tells which birds fly behind each of n (1 to 5, no more than come) valleys that come");
        for (int valleys = 1; valleys <= 5; valleys++) {
            for (int through = 0; through < valleys; through++) {
                rowOf(rowOfOnes(valleys, through), valleys - through);
                oneIsOther(rowOfOnes(valleys, through), valleys - through);
            }
            due("fits(), none comes", rowOfOnes(valleys, valleys).fits(0, 0, 0, 1, 0), BAD);
            due("asked(), none comes", rowOfOnes(valleys, valleys).asked(0, 0, 1), STATE);
        }
        ThirtyBirds y = Check.told(Check.READER);
        y.row(0, 0, 1);
        CHECK.span("fits(bird, ..)", 0, 5, BAD, bird -> y.fits(bird, 0, 0, 1, 0));
        CHECK.span("fits(.., what)", 0, 1, BAD, what -> y.fits(0, 0, 0, 1, what));
    }

    private static ThirtyBirds rowOfOnes(int valleys, int through) {
        ThirtyBirds x = Check.told("f0;" + "v0,0;".repeat(valleys) + "h9,0,0;");
        x.row(0, 2, 40);
        for (int i = 0; i < 40; i++) {
            x.set(0, i, 1);
        }
        for (int i = 0; i < through; i++) {
            x.fly();
        }
        return x;
    }

    private static void rowOf(ThirtyBirds x, int come) {
        CHECK.span("fits(.., n, 0) of " + come, 1, come, BAD, n -> x.fits(0, 0, 0, n, 0));
        CHECK.span("asked(.., n) of " + come, 1, come, BAD, n -> x.asked(0, 0, n));
        due("fits() of all", x.fits(0, 0, 0, come, 0), 62);
        due("asked() of all", x.asked(0, 0, come), (1 << 10) - 1);
        CHECK.span("fits(.., i, ..)", 0, 40 - come, PLACE, i -> x.fits(0, 0, i, come, 0));
        CHECK.span("asked(.., i, ..)", 0, 40 - come, PLACE, i -> x.asked(0, i, come));
    }

    /** Each item from 10 on to 10 + n counts, those at 9 and at 10 + n do not. */
    private static void oneIsOther(ThirtyBirds x, int n) {
        for (int i = 9; i <= 10 + n; i++) {
            boolean isWithin = i >= 10 && i < 10 + n;
            x.set(0, i, 0);
            due("SORTS, item " + i + " is other", x.fits(0, 0, 10, n, 0), isWithin ? 0 : 62);
            due("LEAVING, item " + i + " is other", x.fits(0, 0, 10, n, 1), isWithin ? 0 : 127);
            due("ASKED, item " + i + " is other", x.asked(0, 10, n), isWithin && (i > 10 || n > 1) ? 0
                : isWithin ? (1 << 21) - (1 << 10) : (1 << 10) - 1);
            x.set(0, i, 1);
        }
    }

    private static ThirtyBirds watched(String text, int... row) {
        ThirtyBirds x = Check.told(text);
        x.row(0, 0, row.length);
        for (int i = 0; i < row.length; i++) {
            x.set(0, i, row[i]);
        }
        return x;
    }

    private static void sortsByBits() {
        CHECK.part("SORTS: KINDS (bits 1 to 5) of one by which it is so");
        int[] asks = {6, 7, 8, 9};
        int[] unled = {62, 54, 22, 0};
        int[] led = {62, 54, 54, 48};
        for (int i = 0; i < 4; i++) {
            for (char sort : "hdonp".toCharArray()) {
                String text = "f0;v" + asks[i] + ",2;" + sort + "10,0,";
                due("unled, " + text, watched(text + "5;", 1).fits(0, 0, 0, 1, 0), unled[i]);
                due("unled, not so, " + text, watched(text + "5;", 0).fits(0, 0, 0, 1, 0), 62 - unled[i]);
                due("led, " + text, watched(text + "0;", 1).fits(0, 0, 0, 1, 0), led[i]);
            }
        }
        CHECK.part("SORTS: a dove by those that turned back");
        ThirtyBirds x = watched("f0;v1,0;v5,2;h7,0,5;" + WEAK, 1, 1);
        due("fits() of two valleys", x.fits(0, 0, 0, 2, 0), 2 + 16);
        x.fly();
        due("fits() of the second", x.fits(0, 0, 1, 1, 0), 2 + 16);
        due("kind(0) stays", x.kind(0), 1);
    }

    private static void leavingByBits() {
        CHECK.part("LEAVING: LEAVES (0 to 6, bits) of one by which it is so");
        for (int weak = 0; weak <= 5; weak++) {
            for (int leaves = 0; leaves <= 6; leaves++) {
                String text = "f0;v1,0;h9," + leaves + ",0;" + WEAK.repeat(weak);
                int leaving = (1 << weak + 1) - 2;
                due("it flies, " + text, watched(text, 1).fits(0, 0, 0, 1, 1), 127 - leaving);
                due("it leaves, " + text, watched(text, 0).fits(0, 0, 0, 1, 1), leaving);
                due("neither is so", watched(text, 64).fits(0, 0, 0, 1, 1), 0);
            }
        }
        ThirtyBirds six = watched("f0;v1,0;v1,0;h9,0,0;" + WEAK.repeat(5), 1, 0, 1);
        six.fly();
        six.call(1);
        due("it leaves by six", six.fits(0, 0, 1, 1, 1), 126);
        due("it flies by six", six.fits(0, 0, 2, 1, 1), 1);
    }

    private static void askedByBits() {
        CHECK.part("ASKED: what the next valley ASKS (0 to 20, bits) by which it is so");
        int all = (1 << 21) - 1;
        for (int strong = 0; strong <= 30; strong++) {
            int borne = all & (int) ((2L << strong) - 1);
            for (int asks = 0; asks <= 20; asks += 5) {
                String text = "f0;v" + asks + ",0;v0,0;h" + strong + ",0,0;";
                due("it flies, " + text, watched(text, 1).asked(0, 0, 1), borne);
                due("it turns back, " + text, watched(text, 0).asked(0, 0, 1), all - borne);
                due("neither is so", watched(text, 2).asked(0, 0, 1), 0);
                due("it flies through both", watched(text, 1, 1).asked(0, 0, 2), borne);
                due("it comes again", watched(text, 0, 1).asked(0, 0, 2), 0);
            }
        }
        CHECK.part("ASKED: of the next valley, not of another");
        ThirtyBirds x = watched("f0;v3,0;v5,0;v7,0;h6,0,0;", 1);
        x.swap();
        due("asked(), swapped", x.asked(0, 0, 1), 127);
        x.fly();
        due("asked(), the second", x.asked(0, 0, 1), 127);
        due("ASKS stays", x.valley(0, 0), 3);
        ThirtyBirds y = watched("f0;v3,0;v7,0;h6,0,0;", 1, 1);
        due("asked(), the second asks too much", y.asked(0, 0, 2), 0);
    }

    private static void stormIs(ThirtyBirds x, int m, int c, int above, int below) {
        due("storm(" + m + ", " + c + ", 0)", x.storm(m, c, 0), above);
        due("storm(" + m + ", " + c + ", 1)", x.storm(m, c, 1), below);
    }

    private static void stormByTenths() {
        CHECK.part("STORM by c of 10: a fraction, in lowest terms (0 is 0 by 1)");
        ThirtyBirds one = Check.told("f0;v5,0;h5,0,0;");
        int[] above = {1, 9, 4, 7, 3, 1, 2, 3, 1, 1, 0};
        int[] below = {1, 10, 5, 10, 5, 2, 5, 10, 5, 10, 1};
        for (int c = 0; c <= 10; c++) {
            stormIs(one, 0, c, 1, 1);
            stormIs(one, 1, c, above[c], below[c]);
            for (int m = 2; m <= 6; m++) {
                stormIs(one, m, c, 0, 1);
            }
        }
        CHECK.part("STORM, each by itself: m, or more");
        ThirtyBirds six = Check.told("f0;v5,0;" + "h5,0,0;".repeat(6));
        int[] ofSixtyFour = {64, 63, 57, 42, 22, 7, 1};
        for (int m = 0; m <= 6; m++) {
            int common = m == 0 ? 64 : Integer.lowestOneBit(ofSixtyFour[m]);
            stormIs(six, m, 5, ofSixtyFour[m] / common, 64 / common);
            stormIs(six, m, 0, 1, 1);
            stormIs(six, m, 10, m == 0 ? 1 : 0, 1);
        }
        stormIs(six, 6, 1, 531441, 1000000);
        stormIs(six, 1, 9, 468559, 1000000);
        stormIs(six, 1, 1, 999999, 1000000);
        stormIs(six, 6, 9, 1, 1000000);
        CHECK.part("STORM: each bird that flies");
        for (int number = 0; number <= 5; number++) {
            ThirtyBirds x = Check.told("f0;v1,0;v5,0;" + WEAK.repeat(number) + "h5,0,0;" + WEAK.repeat(5 - number));
            due("fly()", x.fly(), 1 << number);
            stormIs(x, 1, 3, 7, 10);
        }
        ThirtyBirds x = Check.told("f0;v1,0;v5,0;" + (WEAK + "h5,0,0;").repeat(3));
        due("fly()", x.fly(), 42);
        stormIs(x, 3, 3, 343, 1000);
    }

    private static void stormFiveLess() {
        CHECK.part("STORM: 5 less STRONG now (0 at least)");
        for (int asks = 0; asks <= 20; asks++) {
            for (int strong = 0; strong <= 30; strong++) {
                String text = "f0;v" + asks + ",0;h" + strong + ",0,0;";
                boolean isHitBorne = Math.max(0, strong - 5) >= asks;
                stormIs(Check.told(text), 1, 10, isHitBorne ? 1 : 0, 1);
                due("storm(1, 0, 0) of " + text, Check.told(text).storm(1, 0, 0), strong >= asks ? 1 : 0);
            }
        }
        CHECK.part("STORM: one that is KEPT is less STRONG, and arrives");
        ThirtyBirds x = Check.told("f0;v5,0;h5,0,0;");
        x.keep(0, 1);
        stormIs(x, 1, 10, 1, 1);
    }

    private static void stormNumbers() {
        CHECK.part("STORM: m 0 to 6, c 0 to 10, what 0, 1");
        ThirtyBirds x = Check.told(Check.READER);
        CHECK.span("storm(.., 0, 0)", 0, 6, BAD, m -> x.storm(m, 0, 0));
        CHECK.span("storm(0, .., 0)", 0, 10, BAD, c -> x.storm(0, c, 0));
        CHECK.span("storm(0, 0, ..)", 0, 1, BAD, what -> x.storm(0, 0, what));
    }

    /** Four hawks: 0 and 2 arrive, 1 does if it is fed, 3 never does. */
    private static void flocksByDraws() {
        CHECK.part("FLOCKS: X becomes the rest of (X times 16807) by 2147483647");
        String text = "f1;v5,0;h5,0,0;h4,0,0;h9,0,0;h1,0,0;";
        for (int seed : new int[] {1, 2, 3, 7, 127773, 127774, 500000, 999998, 999999}) {
            ThirtyBirds x = Check.told(text);
            long draw = seed;
            int arrived = 0;
            for (int n = 0; n <= 40; n++) {
                due("drawn(" + n + ", " + seed + ", 0)", x.drawn(n, seed, 0), arrived);
                due("drawn(" + n + ", " + seed + ", 1), each has one", x.drawn(n, seed, 1), n);
                draw = draw * 16807 % 2147483647L;
                int bird = (int) (draw % 4);
                int turns = draw % 3 == 0 && bird % 2 == 0 ? 1 : 0;
                int fed = draw % 3 == 1 && bird == 1 ? 1 : 0;
                arrived += 2 - turns + fed;
            }
        }
        CHECK.part("FLOCKS: in how many of them anybody does");
        anybody("f0;v1,0;h9,0,0;", false);
        anybody("f1;v1,0;" + WEAK, true);
    }

    /** Of a single bird: it arrives unless the draw turns it back, or if the draw feeds it. */
    private static void anybody(String text, boolean mustBeFed) {
        ThirtyBirds x = Check.told(text);
        long draw = 999999;
        int flocks = 0;
        for (int n = 0; n <= 40; n++) {
            due("drawn(" + n + ", 999999, 0) of " + text, x.drawn(n, 999999, 0), flocks);
            due("drawn(" + n + ", 999999, 1) of " + text, x.drawn(n, 999999, 1), flocks);
            draw = draw * 16807 % 2147483647L;
            flocks += (mustBeFed ? draw % 3 == 1 : draw % 3 != 0) ? 1 : 0;
        }
    }

    private static void flocksNumbers() {
        CHECK.part("FLOCKS of n (0 to 40) by a SEED (1 to 999999)");
        ThirtyBirds x = Check.told(Check.READER);
        CHECK.span("drawn(.., 1, 0)", 0, 40, BAD, n -> x.drawn(n, 1, 0));
        CHECK.span("drawn(1, 1, ..)", 0, 1, BAD, what -> x.drawn(1, 1, what));
        IntUnaryOperator bySeed = seed -> x.drawn(1, seed, 0);
        CHECK.holds("seed 1", bySeed.applyAsInt(1) >= 0);
        CHECK.holds("seed 999999", bySeed.applyAsInt(999999) >= 0);
        for (int seed : new int[] {0, -1, 1000000, Integer.MIN_VALUE, Integer.MAX_VALUE}) {
            due("seed " + seed, bySeed.applyAsInt(seed), BAD);
        }
        flocksOfThoseThatDoNotFly();
        CHECK.part("FLOCKS: fed, whether it flies or not");
        ThirtyBirds y = Check.told("f9;v1,0;v0,0;" + WEAK);
        y.fly();
        due("drawn(40, 1, 0), fed ones fly no more for it", y.drawn(40, 1, 0), 0);
    }

    /** 1 leaves by two that turned back; 0 did already, and does not again, so none but 2 makes 1 leave. */
    private static void flocksOfThoseThatDoNotFly() {
        CHECK.part("FLOCKS: turns back now, if it flies");
        for (int seed = 1; seed <= 5; seed++) {
            ThirtyBirds x = Check.told("f9;v1,0;v1,0;" + WEAK + "h9,2,0;h9,0,0;h9,0,0;");
            due("fly()", x.fly(), 14);
            long draw = seed;
            int arrived = 0;
            for (int n = 0; n <= 40; n++) {
                due("drawn(" + n + ", " + seed + ", 0)", x.drawn(n, seed, 0), arrived);
                draw = draw * 16807 % 2147483647L;
                int bird = (int) (draw % 4);
                arrived += draw % 3 != 0 || bird == 0 ? 3 : bird == 1 ? 2 : 1;
            }
        }
    }

    private static void all(String what, int want, IntUnaryOperator on, int... numbers) {
        for (int number : numbers) {
            due(what + " of " + number, on.applyAsInt(number), want);
        }
    }

    private static void nobodyFlies() {
        CHECK.part("nobody flies");
        ThirtyBirds x = watched("f2;v5,0;v1,1;h1,0,1;d2,0,0;", 0, 1);
        due("fly()", x.fly(), 0);
        due("arrive()", x.arrive(), 0);
        all("where()", -1, x::where, 0, 1);
        all("strength(0, ..)", 1, k -> x.strength(0, k), 0, 1, 5);
        all("strength(1, ..)", 2, k -> x.strength(1, k), 0, 1, 5);
        due("order(-1)", x.order(-1), 0);
        due("order(0)", x.order(0), 1);
        due("order(1)", x.order(1), NONE);
        all("toKeep()", 0, x::toKeep, 0, 1);
        all("whole(0, ..)", 0, what -> x.whole(0, what), 0, 1);
        all("whole(.., 0)", NONE, m -> x.whole(m, 0), 1, 2, 6);
        all("whole(.., 1)", NONE, m -> x.whole(m, 1), 1, 2, 6);
        all("meal()", NONE, x::meal, 0, 1);
        all("catches()", STATE, x::catches, 0, 1);
        all("beloved()", NONE, x::beloved, 0, 1);
        all("SORTS, nobody", 62, bird -> x.fits(bird, 0, 0, 1, 0), 0, 1);
        all("LEAVING, nobody", 127, bird -> x.fits(bird, 0, 0, 1, 1), 0, 1);
        all("SORTS, one", 0, bird -> x.fits(bird, 0, 1, 1, 0), 0, 1);
        all("LEAVING, one", 0, bird -> x.fits(bird, 0, 1, 1, 1), 0, 1);
        due("ASKED, nobody", x.asked(0, 0, 1), (1 << 21) - 1);
        due("ASKED, one", x.asked(0, 1, 1), 0);
        stormIs(x, 0, 5, 1, 1);
        stormIs(x, 1, 5, 0, 1);
        all("drawn(40, 7, ..)", 0, what -> x.drawn(40, 7, what), 0, 1);
    }

    private static void noBirdIsTold() {
        CHECK.part("no bird is told");
        ThirtyBirds x = watched("f2;v5,0;v1,1;", 0, 1);
        due("arrive()", x.arrive(), 0);
        all("where()", BAD, x::where, 0, 5);
        all("strength()", BAD, bird -> x.strength(bird, 0), 0, 5);
        orderIs(x, 0, 0, 1, NONE, NONE, NONE);
        all("toKeep()", 0, x::toKeep, 0, 1);
        all("whole(0, ..)", 0, what -> x.whole(0, what), 0, 1);
        all("whole(1, ..)", NONE, what -> x.whole(1, what), 0, 1);
        all("meal()", NONE, x::meal, 0, 1);
        all("catches()", BAD, x::catches, 0, 5);
        all("beloved()", NONE, x::beloved, 0, 1);
        due("fits()", x.fits(0, 0, 0, 1, 0), BAD);
        due("ASKED, nobody", x.asked(0, 0, 1), (1 << 21) - 1);
        due("ASKED, one", x.asked(0, 1, 1), 0);
        stormIs(x, 0, 5, 1, 1);
        stormIs(x, 1, 5, 0, 1);
        CHECK.part("FLOCKS: the rest of X by how many there are (none: none)");
        all("drawn(40, 999999, ..)", 0, what -> x.drawn(40, 999999, what), 0, 1);
        CHECK.part("no bird is told: acts");
        all("eat()", BAD, x::eat, 0, 5);
        due("keep(0, 1)", x.keep(0, 1), BAD);
        due("call(0)", x.call(0), BAD);
        due("swap()", x.swap(), 1);
        due("fly()", x.fly(), 0);
        due("fly()", x.fly(), 0);
        due("fly()", x.fly(), STATE);
    }

    private static void noValleyComes() {
        CHECK.part("no valley comes");
        ThirtyBirds x = watched("f2;v0,0;h5,1,1;h6,0,1;d7,0,0;n8,0,3;", 15);
        due("fly()", x.fly(), 15);
        due("arrive()", x.arrive(), 15);
        all("where()", NONE, x::where, 0, 1, 2, 3);
        all("strength(0, ..)", 5, k -> x.strength(0, k), 0, 1, 5);
        orderIs(x, 4, NONE, NONE, NONE, NONE, NONE);
        all("toKeep()", 0, x::toKeep, 0, 1);
        all("whole(4, ..)", 0, what -> x.whole(4, what), 0, 1);
        all("whole(5, ..)", NONE, what -> x.whole(5, what), 0, 1);
        due("meal(0)", x.meal(0), 0);
        due("meal(1)", x.meal(1), 4);
        all("catches(), nobody leaves any more", 0, x::catches, 0, 1, 2, 3);
        due("beloved(0)", x.beloved(0), 0);
        due("beloved(1)", x.beloved(1), 1);
        due("fits()", x.fits(0, 0, 0, 1, 0), BAD);
        due("asked()", x.asked(0, 0, 1), STATE);
        stormIs(x, 4, 5, 1, 1);
        stormIs(x, 5, 5, 0, 1);
        long draw = 1;
        int turned = 0;
        for (int n = 0; n <= 40; n++) {
            due("drawn(" + n + ", 1, 0)", x.drawn(n, 1, 0), 4 * n - turned);
            draw = draw * 16807 % 2147483647L;
            turned += draw % 3 == 0 ? 1 : 0;
        }
    }
}
