/** Promises 17 to 29: what is foretold, on flights reckoned by hand. */
public final class ForetoldTest {
    private static final int NONE = ThirtyBirds.NONE, BAD = ThirtyBirds.BAD, STATE = ThirtyBirds.STATE;
    private static final int NULL = -1000011, PLACE = -1000012;
    private static final Check CHECK = new Check();

    public static void main(String[] args) {
        arriveWhereStrength();
        order();
        toKeep();
        whole();
        meal();
        catches();
        beloved();
        fits();
        fitsRefused();
        asked();
        askedRefused();
        storm();
        stormRefused();
        drawn();
        drawnRefused();
        CHECK.end();
    }

    private static void due(String call, int got, int want) {
        CHECK.due(call, got, want);
    }

    private static void arriveWhereStrength() {
        CHECK.part("arrive, where, strength");
        due("arrive(), no flight", new ThirtyBirds().arrive(), STATE);
        due("where(0), no flight", new ThirtyBirds().where(0), BAD);
        due("strength(0, 0), no flight", new ThirtyBirds().strength(0, 0), BAD);
        due("arrive(), no birds", Check.told("f2;v5,2;").arrive(), 0);
        ThirtyBirds x = Check.told("f2;v5,2;v8,1;v10,3;h20,0,0;h6,0,0;h11,0,0;h20,2,0;");
        due("arrive()", x.arrive(), 1);
        due("where(0)", x.where(0), NONE);
        due("where(1)", x.where(1), 0);
        due("where(2)", x.where(2), 2);
        due("where(3)", x.where(3), 2);
        due("where(4)", x.where(4), BAD);
        due("where(-1)", x.where(-1), BAD);
        int[] strengths = {11, 9, 8, 5, 5, 5};
        for (int k = 0; k <= 5; k++) {
            due("strength(2, " + k + ")", x.strength(2, k), strengths[k]);
        }
        due("strength(1, 3)", x.strength(1, 3), 4);
        due("strength(0, 4)", x.strength(0, 4), 14);
        due("strength(0, 6)", x.strength(0, 6), BAD);
        due("strength(0, -1)", x.strength(0, -1), BAD);
        due("strength(4, 0)", x.strength(4, 0), BAD);
        due("strength(-1, 0)", x.strength(-1, 0), BAD);
        due("fly()", x.fly(), 13);
        due("where(1), turned back already", x.where(1), -1);
        due("where(2), those behind are counted", x.where(2), 2);
        due("strength(1, 5)", x.strength(1, 5), 4);
        due("strength(2, 1)", x.strength(2, 1), 8);
        due("arrive()", x.arrive(), 1);
        x.fly();
        due("fly()", x.fly(), 1);
        due("arrive(), none comes", x.arrive(), 1);
        due("where(0), none comes", x.where(0), NONE);
        due("strength(0, 3), none comes", x.strength(0, 3), 14);
        ThirtyBirds y = Check.told("f2;v8,0;v0,3;h9,0,0;");
        due("arrive()", y.arrive(), 1);
        y.swap();
        due("arrive(), swapped", y.arrive(), 0);
        due("where(0), by place in the row", y.where(0), 1);
    }

    private static void order() {
        CHECK.part("order");
        due("order(9), STATE first", new ThirtyBirds().order(9), STATE);
        ThirtyBirds x = Check.told("f2;v5,4;v9,1;v0,3;h10,0,0;");
        orderIs(x, 1, 1, 0, 2);
        due("order(-2)", x.order(-2), BAD);
        due("order(5)", x.order(5), BAD);
        due("the row stays", x.valley(0, 2), 0);
        due("arrive()", x.arrive(), 0);
        x.fly();
        orderIs(x, 0, 1, 2);
        ThirtyBirds y = Check.told("f1;v0,0;v0,0;v0,0;v0,0;v0,0;h1,0,0;");
        orderIs(y, 1, 0, 1, 2, 3, 4);
        due("swap()", y.swap(), 1);
        orderIs(y, 1, 0, 1, 2, 3, 4);
        due("fly()", y.fly(), 1);
        due("swap()", y.swap(), 2);
        orderIs(y, 1, 0, 2, 3, 4);
        for (int i = 0; i < 4; i++) {
            y.fly();
        }
        orderIs(y, 1);
        CHECK.part("order, the last of all");
        // A loss of 1 is borne only ahead of what asks less, and so on: 4 3 2 1 0 alone lets the hawk through.
        orderIs(Check.told("f1;v11,1;v12,1;v13,1;v14,1;v15,1;h16,0,0;"), 1, 4, 3, 2, 1, 0);
        CHECK.part("order, of several");
        orderIs(Check.told("f1;v9,1;v3,1;v3,1;h10,0,0;h4,0,0;h20,0,0;"), 2, 0, 1, 2);
    }

    private static void orderIs(ThirtyBirds x, int most, int... valleys) {
        due("order(-1)", x.order(-1), most);
        for (int k = 0; k < 5; k++) {
            due("order(" + k + ")", x.order(k), k < valleys.length ? valleys[k] : NONE);
        }
    }

    private static void toKeep() {
        CHECK.part("toKeep");
        due("toKeep(7), STATE first", new ThirtyBirds().toKeep(7), STATE);
        ThirtyBirds x = Check.told("f2;v5,0;h3,0,0;h9,1,0;h4,0,0;h9,2,0;");
        due("toKeep(0)", x.toKeep(0), 2);
        due("toKeep(1)", x.toKeep(1), 5);
        due("toKeep(2)", x.toKeep(2), BAD);
        due("toKeep(-1)", x.toKeep(-1), BAD);
        x.keep(0, 1);
        due("toKeep(0), one is kept", x.toKeep(0), 1);
        due("toKeep(1), one is kept", x.toKeep(1), 4);
        x.keep(0, 0);
        x.fly();
        due("toKeep(0), none flies", x.toKeep(0), 0);
        due("toKeep(1), none flies", x.toKeep(1), 0);
        ThirtyBirds y = Check.told("f2;v5,0;v5,3;h3,0,0;h9,1,0;h9,0,0;h6,3,0;");
        due("fly()", y.fly(), 12);
        due("toKeep(1), those that fly alone", y.toKeep(1), 8);
        due("call(1)", y.call(1), 14);
        due("toKeep(1), one leaves by those ahead", y.toKeep(1), 10);
        due("toKeep(0)", y.toKeep(0), 2);
    }

    private static void whole() {
        CHECK.part("whole");
        due("whole(9, 9), STATE first", new ThirtyBirds().whole(9, 9), STATE);
        ThirtyBirds x = Check.told("f2;v5,0;h3,0,0;h9,1,0;h4,0,0;h9,2,0;");
        int[] fewest = {0, 1, 2, 2, 2, NONE, NONE};
        int[] which = {0, 1, 3, 3, 5, NONE, NONE};
        for (int m = 0; m <= 6; m++) {
            due("whole(" + m + ", 0)", x.whole(m, 0), fewest[m]);
            due("whole(" + m + ", 1)", x.whole(m, 1), which[m]);
        }
        due("whole(7, 0)", x.whole(7, 0), BAD);
        due("whole(-1, 0)", x.whole(-1, 0), BAD);
        due("whole(0, 2)", x.whole(0, 2), BAD);
        due("whole(0, -1)", x.whole(0, -1), BAD);
        x.keep(2, 1);
        due("whole(1, 0), one is kept", x.whole(1, 0), 0);
        due("whole(4, 1), one is kept", x.whole(4, 1), 1);
    }

    private static void meal() {
        CHECK.part("meal");
        due("meal(7), STATE first", new ThirtyBirds().meal(7), STATE);
        ThirtyBirds x = Check.told("f2;v5,0;v0,0;h2,0,0;h3,0,0;h4,0,0;");
        due("meal(0), the first by which most arrive", x.meal(0), 1);
        due("meal(1)", x.meal(1), 1);
        due("meal(2)", x.meal(2), BAD);
        due("meal(-1)", x.meal(-1), BAD);
        due("nothing is fed", x.bird(1, 0), 3);
        x.fly();
        due("meal(0), none flies", x.meal(0), NONE);
        due("meal(1), none flies", x.meal(1), NONE);
        x.call(2);
        due("meal(0), of those that fly", x.meal(0), 2);
        due("meal(1)", x.meal(1), 1);
        ThirtyBirds y = Check.told("f9;v20,9;h30,0,0;h25,0,0;");
        due("meal(0), 30 at most", y.meal(0), 1);
        due("meal(1)", y.meal(1), 2);
        due("meal(0), no birds", Check.told("f9;v2,9;").meal(0), NONE);
        due("meal(1), none arrives", Check.told("f0;v2,9;h1,0,0;").meal(1), 0);
    }

    private static void catches() {
        CHECK.part("catches");
        due("no flight", new ThirtyBirds().catches(0), BAD);
        ThirtyBirds x = Check.told("f1;v0,0;v9,0;h9,0,0;h9,1,0;h9,2,0;h8,0,0;");
        // The last one turns back in valley 1 anyhow, and takes 1 and 2 with it.
        due("catches(0)", x.catches(0), 0);
        due("catches(3)", x.catches(3), 0);
        due("catches(4)", x.catches(4), BAD);
        due("catches(-1)", x.catches(-1), BAD);
        x.eat(3);
        due("catches(0)", x.catches(0), 2);
        due("catches(1)", x.catches(1), 0);
        due("catches(2)", x.catches(2), 1);
        due("catches(3)", x.catches(3), 2);
        x.keep(1, 1);
        due("catches(0), one is kept", x.catches(0), 0);
        x.fly();
        x.fly();
        due("catches(0), none comes", x.catches(0), 0);
        ThirtyBirds y = Check.told("f1;v5,3;v0,0;h9,0,0;n6,0,0;h1,0,0;");
        due("catches(0), it is loved", y.catches(0), 1);
        due("catches(1)", y.catches(1), 0);
        y.fly();
        due("catches(2), it does not fly", y.catches(2), STATE);
        due("catches(0), of a dove", Check.told("f1;v5,0;h9,0,0;d5,0,0;").catches(0), 1);
    }

    private static void beloved() {
        CHECK.part("beloved");
        due("beloved(7), STATE first", new ThirtyBirds().beloved(7), STATE);
        ThirtyBirds x = Check.told("f1;v1,0;v1,0;h9,0,0;h0,0,3;h9,0,3;h0,0,0;h9,0,5;");
        due("beloved(0)", x.beloved(0), 3);
        due("beloved(1)", x.beloved(1), 2);
        due("beloved(2)", x.beloved(2), BAD);
        due("beloved(-1)", x.beloved(-1), BAD);
        due("fly()", x.fly(), 21);
        due("beloved(0), it need not fly", x.beloved(0), 3);
        due("beloved(1), by those that fly", x.beloved(1), 1);
        ThirtyBirds y = Check.told("f1;v1,0;h9,0,0;h9,0,5;");
        due("beloved(0), none", y.beloved(0), NONE);
        due("beloved(1), none", y.beloved(1), NONE);
        due("beloved(0), of several the first", Check.told("f1;v1,0;h9,0,2;h9,0,0;h9,0,1;").beloved(0), 0);
    }

    /** Behind valley 0 all fly (8, 7, 8); in valley 1 the hawk and the dove turn back, and the last leaves by them. */
    private static ThirtyBirds watched() {
        return Check.told("f1;v5,2;v6,4;h10,0,0;d9,2,0;n8,1,0;");
    }

    private static void fits() {
        CHECK.part("fits");
        ThirtyBirds x = watched();
        x.row(0, 0, 4);
        x.set(0, 0, 7);
        x.set(0, 2, 7);
        x.set(0, 3, 4);
        due("SORTS of 0", x.fits(0, 0, 0, 2, 0), 14);
        due("LEAVING of 2", x.fits(2, 0, 0, 2, 1), 6);
        due("LEAVING of 2, later in the row", x.fits(2, 0, 2, 2, 1), 121);
        due("LEAVING of 2, one valley", x.fits(2, 0, 0, 1, 1), 127);
        due("SORTS of 2, one valley: an old one is too weak", x.fits(2, 0, 0, 1, 0), 54);
        due("SORTS of 1, as none is so", x.fits(1, 0, 1, 2, 0), 0);
        due("kind(0) stays", x.kind(0), 1);
        due("bird(2, 1) stays", x.bird(2, 1), 1);
        x.row(1, 2, 1);
        x.set(1, 0, 7 + 64);
        due("a bit of no bird", x.fits(0, 1, 0, 1, 0), 0);
        due("fly()", x.fly(), 7);
        due("LEAVING of 2, valley 1 alone", x.fits(2, 0, 3, 1, 1), 121);
        due("n is more than come", x.fits(2, 0, 2, 2, 1), BAD);
        due("fly()", x.fly(), 0);
        due("none comes", x.fits(2, 0, 0, 1, 1), BAD);
    }

    private static void fitsRefused() {
        CHECK.part("fits refused");
        due("no flight", new ThirtyBirds().fits(0, 0, 0, 1, 0), BAD);
        ThirtyBirds x = watched();
        x.row(0, 0, 3);
        due("bird -1", x.fits(-1, 0, 0, 1, 0), BAD);
        due("bird 3", x.fits(3, 0, 0, 1, 0), BAD);
        due("row -1", x.fits(0, -1, 0, 1, 0), BAD);
        due("row 8", x.fits(0, 8, 0, 1, 0), BAD);
        due("n 0", x.fits(0, 0, 0, 0, 0), BAD);
        due("n -1", x.fits(0, 0, 0, -1, 0), BAD);
        due("n 3, two come", x.fits(0, 0, 0, 3, 0), BAD);
        due("what -1", x.fits(0, 0, 0, 1, -1), BAD);
        due("what 2", x.fits(0, 0, 0, 1, 2), BAD);
        due("BAD ahead of NULL", x.fits(0, 1, 0, 3, 0), BAD);
        due("a row that is missing", x.fits(0, 1, 0, 1, 0), NULL);
        due("NULL ahead of PLACE", x.fits(0, 1, -1, 1, 0), NULL);
        due("i -1", x.fits(0, 0, -1, 1, 0), PLACE);
        due("i 2, n 2", x.fits(0, 0, 2, 2, 0), PLACE);
        due("i 3", x.fits(0, 0, 3, 1, 0), PLACE);
        due("i wraps around", x.fits(0, 0, Integer.MAX_VALUE, 2, 0), PLACE);
        due("i 1, n 2", x.fits(0, 0, 1, 2, 0), 0);
    }

    private static void asked() {
        CHECK.part("asked");
        ThirtyBirds x = watched();
        x.row(0, 0, 5);
        x.set(0, 0, 7);
        x.set(0, 2, 1);
        x.set(0, 3, 5);
        due("all fly, then none", x.asked(0, 0, 2), 255);
        due("all fly", x.asked(0, 0, 1), 255);
        due("none flies", x.asked(0, 1, 1), 2096640);
        due("the hawk flies", x.asked(0, 2, 1), 256);
        due("as none is so", x.asked(0, 3, 1), 0);
        due("valley(0, 0) stays", x.valley(0, 0), 5);
        x.swap();
        due("the next valley is asked of", x.asked(0, 0, 1), 63);
        x.fly();
        due("valley 0 behind it, that the hawk meets with 4", x.asked(0, 4, 1), (1 << 21) - 32);
    }

    private static void askedRefused() {
        CHECK.part("asked refused");
        due("STATE ahead of BAD", new ThirtyBirds().asked(9, 0, 0), STATE);
        ThirtyBirds x = watched();
        x.row(0, 0, 3);
        due("row -1", x.asked(-1, 0, 1), BAD);
        due("row 8", x.asked(8, 0, 1), BAD);
        due("n 0", x.asked(0, 0, 0), BAD);
        due("n 3, two come", x.asked(0, 0, 3), BAD);
        due("a row that is missing", x.asked(1, 9, 1), NULL);
        due("i -1", x.asked(0, -1, 1), PLACE);
        due("i 2, n 2", x.asked(0, 2, 2), PLACE);
        x.fly();
        x.fly();
        due("none comes", x.asked(0, 0, 1), STATE);
        due("none comes, STATE ahead of BAD", x.asked(9, 0, 9), STATE);
    }

    private static void stormIs(ThirtyBirds x, int m, int c, int above, int below) {
        due("storm(" + m + ", " + c + ", 0)", x.storm(m, c, 0), above);
        due("storm(" + m + ", " + c + ", 1)", x.storm(m, c, 1), below);
    }

    private static void storm() {
        CHECK.part("storm");
        // 0 arrives if it is spared, 1 arrives, 2 never does.
        ThirtyBirds x = Check.told("f1;v5,0;v0,0;h9,0,0;h12,0,0;h3,0,0;");
        stormIs(x, 0, 3, 1, 1);
        stormIs(x, 1, 3, 1, 1);
        stormIs(x, 2, 3, 7, 10);
        stormIs(x, 2, 5, 1, 2);
        stormIs(x, 2, 0, 1, 1);
        stormIs(x, 2, 10, 0, 1);
        stormIs(x, 3, 3, 0, 1);
        stormIs(x, 6, 3, 0, 1);
        due("nothing changes", x.bird(0, 0), 9);
        x.fly();
        stormIs(x, 2, 3, 1, 1);
        ThirtyBirds y = Check.told("f1;v5,0;h9,0,0;h9,0,0;");
        stormIs(y, 1, 3, 91, 100);
        stormIs(y, 2, 3, 49, 100);
        stormIs(y, 1, 4, 21, 25);
        ThirtyBirds z = Check.told("f1;v5,0;h9,0,0;h9,0,0;h9,0,0;h9,0,0;h9,0,0;h9,0,0;");
        stormIs(z, 6, 1, 531441, 1000000);
        stormIs(z, 1, 1, 999999, 1000000);
        stormIs(z, 0, 1, 1, 1);
        stormIs(Check.told("f1;v1,0;h5,0,0;h6,0,0;"), 2, 9, 1, 10);
        stormIs(Check.told("f1;v1,0;h4,0,0;"), 1, 10, 0, 1);
        ThirtyBirds none = Check.told("f1;v5,0;");
        stormIs(none, 0, 4, 1, 1);
        stormIs(none, 1, 4, 0, 1);
    }

    private static void stormRefused() {
        CHECK.part("storm refused");
        due("STATE ahead of BAD", new ThirtyBirds().storm(9, 99, 9), STATE);
        ThirtyBirds x = watched();
        due("m -1", x.storm(-1, 0, 0), BAD);
        due("m 7", x.storm(7, 0, 0), BAD);
        due("c -1", x.storm(0, -1, 0), BAD);
        due("c 11", x.storm(0, 11, 0), BAD);
        due("what -1", x.storm(0, 0, -1), BAD);
        due("what 2", x.storm(0, 0, 2), BAD);
    }

    private static void drawn() {
        CHECK.part("drawn");
        // X from 1 on: 16807 feeds 1, 282475249 too, three do nothing or no good, 470211272 does nothing,
        // 101027544 turns 0 back.
        ThirtyBirds x = Check.told("f2;v5,0;h9,1,0;h4,0,0;");
        int[] arrive = {0, 2, 4, 4, 4, 4, 4, 4};
        int[] flocks = {0, 1, 2, 2, 2, 2, 2, 2};
        for (int n = 0; n < 8; n++) {
            due("drawn(" + n + ", 1, 0)", x.drawn(n, 1, 0), arrive[n]);
            due("drawn(" + n + ", 1, 1)", x.drawn(n, 1, 1), flocks[n]);
        }
        due("nothing changes", x.bird(1, 0), 4);
        ThirtyBirds y = Check.told("f2;v3,0;h9,0,0;d4,1,0;");
        due("drawn(6, 1, 0)", y.drawn(6, 1, 0), 12);
        due("drawn(7, 1, 0)", y.drawn(7, 1, 0), 12);
        due("drawn(7, 1, 1)", y.drawn(7, 1, 1), 6);
        ThirtyBirds z = Check.told("f2;v3,0;h9,0,0;d4,0,0;");
        due("drawn(7, 1, 0), a dove alone", z.drawn(7, 1, 0), 13);
        due("drawn(7, 1, 1), a dove alone", z.drawn(7, 1, 1), 7);
        z.keep(0, 1);
        due("drawn(7, 1, 0), a kept one turns back, too", z.drawn(7, 1, 0), 13);
        due("no birds", Check.told("f2;v3,0;").drawn(40, 999999, 0), 0);
    }

    private static void drawnRefused() {
        CHECK.part("drawn refused");
        due("STATE ahead of BAD", new ThirtyBirds().drawn(99, 0, 9), STATE);
        ThirtyBirds x = Check.told("f2;v0,0;h9,1,0;");
        due("n -1", x.drawn(-1, 1, 0), BAD);
        due("n 41", x.drawn(41, 1, 0), BAD);
        due("seed 0", x.drawn(1, 0, 0), BAD);
        due("seed -1", x.drawn(1, -1, 0), BAD);
        due("seed 1000000", x.drawn(1, 1000000, 0), BAD);
        due("what -1", x.drawn(1, 1, -1), BAD);
        due("what 2", x.drawn(1, 1, 2), BAD);
        due("seed 999999", x.drawn(0, 999999, 0), 0);
    }
}
