/** Promises 1, 6 to 16, 30, 31 and 36: texts, faults, acts, images and what is seen of them. */
public final class FlightsTest {
    private static final int NONE = ThirtyBirds.NONE, BAD = ThirtyBirds.BAD;
    private static final int STATE = ThirtyBirds.STATE, FULL = ThirtyBirds.FULL;
    private static final Check CHECK = new Check();

    public static void main(String[] args) {
        newObject();
        feed();
        texts();
        faultsThatCannotStand();
        faultsOfNumbersAndRoom();
        faultLeavesAll();
        flightAnew();
        flyByKinds();
        flyLeaving();
        flyKept();
        flyRefused();
        eat();
        keep();
        call();
        swap();
        undo();
        undoForgets();
        birdAndValley();
        images();
        counts();
        CHECK.end();
    }

    private static void due(String call, int got, int want) {
        CHECK.due(call, got, want);
    }

    private static void newObject() {
        CHECK.part("a new object");
        ThirtyBirds x = new ThirtyBirds();
        for (int what = 0; what < 8; what++) {
            due("count(" + what + ")", x.count(what), 0);
        }
        due("fault()", x.fault(), 0);
        due("status()", x.status(), 0);
        due("trace(0)", x.trace(0), NONE);
        due("arrive()", x.arrive(), STATE);
        due("fly()", x.fly(), STATE);
        due("bird(0, 0)", x.bird(0, 0), BAD);
        due("valley(0, 0)", x.valley(0, 0), BAD);
        due("drop(0)", x.drop(0), -1000011);
        due("constants", ThirtyBirds.NONE, -1000000);
        due("constants", ThirtyBirds.BAD, -1000001);
        due("constants", ThirtyBirds.STATE, -1000002);
        due("constants", ThirtyBirds.FULL, -1000003);
    }

    private static void feed() {
        CHECK.part("feed");
        ThirtyBirds x = new ThirtyBirds();
        due("feed(-1)", x.feed(-1), BAD);
        due("feed(256)", x.feed(256), BAD);
        due("feed(0)", x.feed(0), 1);
        due("feed(255)", x.feed(255), 2);
        for (int i = 3; i <= 120; i++) {
            due("feed, byte " + i, x.feed('f'), i);
        }
        due("feed, byte 121", x.feed('f'), FULL);
        due("feed(256), BAD first", x.feed(256), BAD);
        due("count(7)", x.count(7), 120);
        due("flight()", x.flight(), -1000100);
        due("count(7)", x.count(7), 0);
        due("feed(102) then", x.feed(102), 1);
    }

    private static void texts() {
        CHECK.part("texts");
        due("no birds", Check.tell(new ThirtyBirds(), "f0;v0,0;"), 0);
        due("two figures", Check.tell(new ThirtyBirds(), "f09;v00,09;h00,06,05;"), 1);
        ThirtyBirds x = new ThirtyBirds();
        String most = "f9;v20,9;v20,9;v20,9;v20,9;v20,9;h30,6,5;d30,6,5;o30,6,5;n30,6,5;p30,6,5;h30,6,5;";
        due("the most of all", Check.tell(x, most), 6);
        due("count(1)", x.count(1), 5);
        due("count(2)", x.count(2), 6);
        due("count(4)", x.count(4), 63);
        due("count(7)", x.count(7), 0);
        due("fault()", x.fault(), 0);
        int[] kinds = {1, 2, 3, 4, 5, 1};
        for (int bird = 0; bird < 6; bird++) {
            due("kind(" + bird + ")", x.kind(bird), kinds[bird]);
            due("STRONG", x.bird(bird, 0), 30);
            due("LEAVES", x.bird(bird, 1), 6);
            due("LOVES", x.bird(bird, 2), 5);
        }
        for (int valley = 0; valley < 5; valley++) {
            due("ASKS", x.valley(valley, 0), 20);
            due("LOSS", x.valley(valley, 1), 9);
            due("place", x.valley(valley, 2), valley);
        }
    }

    private static void fault(String text, int place, int number) {
        ThirtyBirds x = new ThirtyBirds();
        due("flight() of " + text, Check.tell(x, text), -1000100 - place);
        due("fault() of " + text, x.fault(), number);
        due("count(7) then", x.count(7), 0);
        due("count(1) then", x.count(1), 0);
    }

    private static void faultsThatCannotStand() {
        CHECK.part("faults, 1");
        fault("", 0, 1);
        fault("g1;", 0, 1);
        fault("F1;", 0, 1);
        fault(" f1;v0,0;", 0, 1);
        fault("f;", 1, 1);
        fault("ff1;", 1, 1);
        fault("f1", 2, 1);
        fault("f1,", 2, 1);
        fault("f100;", 1, 1);
        fault("f1000;", 1, 1);
        fault("f001;", 1, 1);
        fault("f1;", 3, 1);
        fault("f1;f1;", 3, 1);
        fault("f1;h1,0,0;", 3, 1);
        fault("f1;v", 4, 1);
        fault("f1;v,", 4, 1);
        fault("f1;v0", 5, 1);
        fault("f1;v0;", 5, 1);
        fault("f1;v0,", 6, 1);
        fault("f1;v0,;", 6, 1);
        fault("f1;v0,0", 7, 1);
        fault("f1;v0,0,", 7, 1);
        fault("f1;v0,0;x", 8, 1);
        fault("f1;v0,0;1", 8, 1);
        fault("f1;v0,0; ", 8, 1);
        fault("f1;v0,0;\u00e9", 8, 1);
        fault("f1;v0,0;h", 9, 1);
        fault("f1;v0,0;hh", 9, 1);
        fault("f1;v0,0;h1", 10, 1);
        fault("f1;v0,0;h1;", 10, 1);
        fault("f1;v0,0;h1,", 11, 1);
        fault("f1;v0,0;h1,0", 12, 1);
        fault("f1;v0,0;h1,0;", 12, 1);
        fault("f1;v0,0;h1,0,", 13, 1);
        fault("f1;v0,0;h1,0,0", 14, 1);
        fault("f1;v0,0;h1,0,0,", 14, 1);
        fault("f1;v0,0;h111,0,0;", 9, 1);
        fault("f1;v0,0;h1,0,000;", 13, 1);
        fault("f1;v0,0;h1,0,0;v0,0;", 15, 1);
        fault("f1;v0,0;h1,0,0;f", 15, 1);
    }

    private static void faultsOfNumbersAndRoom() {
        CHECK.part("faults, 2 and 3");
        fault("f10;", 1, 2);
        fault("f10", 1, 2);
        fault("f1;v21,0;", 4, 2);
        fault("f1;v0,10;", 6, 2);
        fault("f1;v0,0;h31,0,0;", 9, 2);
        fault("f1;v0,0;h1,7,0;", 11, 2);
        fault("f1;v0,0;h1,0,6;", 13, 2);
        fault("f1;v0,0;h99,7,6;", 9, 2);
        fault("f1;v0,0;h1,99,0", 11, 2);
        String five = "f1;v0,0;v0,0;v0,0;v0,0;v0,0;";
        fault(five + "v0,0;", 28, 3);
        fault(five + "v", 28, 3);
        String six = "h1,0,0;d1,0,0;o1,0,0;n1,0,0;p1,0,0;h1,0,0;";
        fault("f1;v0,0;" + six + "h1,0,0;", 50, 3);
        fault("f1;v0,0;" + six + "p", 50, 3);
        fault("f1;v0,0;" + six + "v0,0;", 50, 1);
        fault(five + "h1,0,0;v0,0;", 35, 1);
        fault("f10;v21,0;", 1, 2);
        fault("f1;v0,10;x", 6, 2);
    }

    private static void faultLeavesAll() {
        CHECK.part("a fault leaves all");
        ThirtyBirds x = Check.told("f2;v1,1;v2,2;h9,1,0;d8,2,1;");
        x.eat(0);
        x.fly();
        String before = Check.seen(x);
        due("flight()", Check.tell(x, "f7;v3,3;v4,4;h5,0,0;h"), -1000121);
        due("fault()", x.fault(), 1);
        String after = Check.seen(x);
        CHECK.holds("all stays but the fault", after.equals(before.replace(" f0", " f1")));
        due("undo()", x.undo(), 1);
        due("flight()", Check.tell(x, "f1;v0,0;"), 0);
        due("fault() stays the latest", x.fault(), 1);
        due("flight()", Check.tell(x, "f11;"), -1000101);
        due("fault()", x.fault(), 2);
    }

    private static void flightAnew() {
        CHECK.part("flight() in place of the one before");
        ThirtyBirds x = Check.told("f2;v5,1;v2,2;h3,1,0;d8,1,1;o9,0,0;");
        x.fly();
        x.keep(2, 1);
        x.eat(2);
        due("flight()", Check.tell(x, "f3;v1,0;h4,0,1;n6,0,0;"), 2);
        due("VALLEYS", x.count(1), 1);
        due("THROUGH", x.count(3), 0);
        due("which fly", x.count(4), 3);
        due("turned back", x.count(5), 0);
        due("ACTS", x.count(6), 0);
        due("undo()", x.undo(), STATE);
        due("bird(0, 0)", x.bird(0, 0), 4);
        due("bird(0, 4)", x.bird(0, 4), 0);
        due("bird(2, 0)", x.bird(2, 0), BAD);
        due("valley(1, 0)", x.valley(1, 0), BAD);
        due("keep(0, 1): nobody was kept", x.keep(0, 1), 1);
        due("eat(1) by the new law", x.eat(1), 9);
    }

    private static void flyByKinds() {
        CHECK.part("fly, by kinds");
        // The hawk 5 leaves in valley 0: the nightingale 3 and the peacock 4 love it.
        ThirtyBirds x = Check.told("f1;v5,2;v1,4;h20,0,0;d20,0,0;o20,0,0;n20,0,5;p20,0,5;h6,0,0;");
        due("fly()", x.fly(), 31);
        due("a hawk", x.bird(0, 0), 18);
        due("a dove, none turned back", x.bird(1, 0), 18);
        due("an old one", x.bird(2, 0), 16);
        due("a nightingale, led", x.bird(3, 0), 20);
        due("a peacock, led", x.bird(4, 0), 20);
        due("the one that turned back", x.bird(5, 0), 4);
        due("fly()", x.fly(), 31);
        due("a hawk", x.bird(0, 0), 14);
        due("a dove, one turned back", x.bird(1, 0), 13);
        due("an old one", x.bird(2, 0), 8);
        due("a nightingale, not led", x.bird(3, 0), 16);
        due("a peacock, not led", x.bird(4, 0), 17);
        due("one that does not fly", x.bird(5, 0), 4);
        CHECK.part("fly, edges of kinds");
        ThirtyBirds y = Check.told("f1;v0,0;v0,9;h8,0,0;p2,0,5;n9,0,2;p9,0,3;n9,0,5;");
        due("fly()", y.fly(), 31);
        due("a peacock, LOSS 0, loves one not told: 0 at least", y.bird(1, 0), 0);
        due("fly()", y.fly(), 31);
        due("a hawk, 0 at least", y.bird(0, 0), 0);
        due("a nightingale that loves itself", y.bird(2, 0), 9);
        due("a peacock that loves itself", y.bird(3, 0), 9);
        due("a nightingale that loves one not told", y.bird(4, 0), 0);
    }

    private static void flyLeaving() {
        CHECK.part("fly, by whom others leave");
        // 4 is too weak; then 0 leaves by one, then 1 and 2 at once by two, then 5 by four; 3 never leaves.
        ThirtyBirds x = Check.told("f1;v5,0;v0,0;h9,1,0;h9,2,0;h9,2,0;h9,0,0;h4,6,0;h9,4,0;");
        due("fly()", x.fly(), 8);
        due("turned back", x.count(5), 5);
        CHECK.part("fly, nobody leaves by fewer than LEAVES");
        ThirtyBirds y = Check.told("f1;v5,0;v6,0;h9,2,0;h4,0,0;h5,0,0;h9,3,0;h9,4,0;");
        due("fly()", y.fly(), 29);
        due("turned back", y.count(5), 1);
        due("fly()", y.fly(), 0);
        due("turned back", y.count(5), 5);
        CHECK.part("fly, all six leave one by one");
        ThirtyBirds w = Check.told("f9;v5,0;v5,0;h4,6,0;h9,1,0;h9,2,0;h9,3,0;h9,4,0;h9,5,0;");
        for (int bird = 1; bird < 6; bird++) {
            w.keep(bird, 1);
        }
        due("fly()", w.fly(), 62);
        due("call(0)", w.call(0), 63);
        due("eat(0)", w.eat(0), 13);
        for (int bird = 1; bird < 6; bird++) {
            w.keep(bird, 0);
        }
        due("fly()", w.fly(), 0);
        due("turned back", w.count(5), 7);
        CHECK.part("fly, strong as asked goes on");
        due("fly()", Check.told("f1;v5,1;h6,0,0;h5,0,0;").fly(), 1);
        CHECK.part("fly, a bird turned back twice counts twice");
        ThirtyBirds z = Check.told("f0;v5,0;v5,0;v0,1;v0,0;h4,0,0;d9,0,0;h9,2,1;h9,3,1;");
        due("fly()", z.fly(), 14);
        due("call(0)", z.call(0), 15);
        due("turned back", z.count(5), 1);
        due("fly()", z.fly(), 2);
        due("turned back", z.count(5), 4);
        due("a dove", z.bird(1, 0), 8);
        due("call(2)", z.call(2), 6);
        due("what the next takes from a dove", z.bird(1, 5), 5);
        due("fly(), the called one leaves anew", z.fly(), 2);
        due("a dove, by all that turned back", z.bird(1, 0), 3);
        due("turned back", z.count(5), 5);
    }

    private static void flyKept() {
        CHECK.part("fly, kept ones");
        ThirtyBirds x = Check.told("f1;v9,1;v9,1;h3,0,0;h9,1,0;h2,0,0;");
        due("keep(0, 1)", x.keep(0, 1), 1);
        due("keep(1, 1)", x.keep(1, 1), 3);
        due("fly()", x.fly(), 3);
        due("a kept one loses, too", x.bird(0, 0), 2);
        due("keep(1, 0)", x.keep(1, 0), 1);
        due("fly()", x.fly(), 1);
    }

    private static void flyRefused() {
        CHECK.part("fly, to the end");
        due("no flight", new ThirtyBirds().fly(), STATE);
        ThirtyBirds x = Check.told("f1;v9,1;v9,1;h3,0,0;");
        due("fly()", x.fly(), 0);
        due("THROUGH", x.count(3), 1);
        due("fly(), nobody flies", x.fly(), 0);
        due("THROUGH", x.count(3), 2);
        due("fly(), none comes", x.fly(), STATE);
        due("THROUGH", x.count(3), 2);
        due("ACTS", x.count(6), 2);
        due("fly() without birds", Check.told("f1;v9,1;").fly(), 0);
    }

    private static void eat() {
        CHECK.part("eat");
        ThirtyBirds x = Check.told("f7;v9,1;h3,0,0;h22,0,0;h30,0,0;");
        due("eat(0)", x.eat(0), 10);
        due("eat(0)", x.eat(0), 17);
        due("eat(1)", x.eat(1), 29);
        due("eat(1), 30 at most", x.eat(1), 30);
        due("eat(2)", x.eat(2), 30);
        due("ACTS", x.count(6), 5);
        due("eat(-1)", x.eat(-1), BAD);
        due("eat(3)", x.eat(3), BAD);
        due("ACTS", x.count(6), 5);
        ThirtyBirds y = Check.told("f0;v9,1;h3,0,0;");
        due("fly()", y.fly(), 0);
        due("eat(0) by nothing, turned back", y.eat(0), 2);
        due("ACTS", y.count(6), 2);
    }

    private static void keep() {
        CHECK.part("keep");
        ThirtyBirds x = Check.told("f7;v9,1;h3,0,0;h22,0,0;");
        due("keep(0, 0), it is so", x.keep(0, 0), STATE);
        due("keep(1, 1)", x.keep(1, 1), 2);
        due("keep(1, 1), it is so", x.keep(1, 1), STATE);
        due("bird(1, 4)", x.bird(1, 4), 1);
        due("bird(0, 4)", x.bird(0, 4), 0);
        due("keep(0, 1)", x.keep(0, 1), 3);
        due("keep(1, 0)", x.keep(1, 0), 1);
        due("keep(2, 1)", x.keep(2, 1), BAD);
        due("keep(-1, 1)", x.keep(-1, 1), BAD);
        due("keep(0, 2)", x.keep(0, 2), BAD);
        due("keep(0, -1)", x.keep(0, -1), BAD);
        due("ACTS", x.count(6), 3);
        ThirtyBirds y = Check.told("f7;v9,1;h3,0,0;");
        y.fly();
        due("keep(0, 1), turned back", y.keep(0, 1), 1);
    }

    private static void call() {
        CHECK.part("call");
        ThirtyBirds x = Check.told("f7;v9,0;v9,0;h3,0,0;h22,0,0;h3,0,0;");
        due("call(0), it flies", x.call(0), STATE);
        x.fly();
        due("call(1), it flies", x.call(1), STATE);
        due("call(2)", x.call(2), 6);
        due("call(2), it flies", x.call(2), STATE);
        due("bird(2, 3)", x.bird(2, 3), 1);
        due("call(3)", x.call(3), BAD);
        due("call(-1)", x.call(-1), BAD);
        due("ACTS", x.count(6), 2);
        due("fly()", x.fly(), 2);
        due("turned back", x.count(5), 3);
    }

    private static void swap() {
        CHECK.part("swap");
        due("no flight", new ThirtyBirds().swap(), STATE);
        due("one comes", Check.told("f1;v1,1;h1,0,0;").swap(), STATE);
        ThirtyBirds x = Check.told("f1;v5,1;v6,2;v7,3;h20,0,0;");
        due("swap()", x.swap(), 1);
        due("valley(0, 2)", x.valley(0, 2), 1);
        due("valley(1, 2)", x.valley(1, 2), 0);
        due("valley(1, 0) stays", x.valley(1, 0), 6);
        due("fly()", x.fly(), 1);
        due("bird(0, 0)", x.bird(0, 0), 18);
        due("swap()", x.swap(), 2);
        due("valley(1, 2) is behind", x.valley(1, 2), 0);
        due("valley(0, 2)", x.valley(0, 2), 2);
        due("fly()", x.fly(), 1);
        due("bird(0, 0)", x.bird(0, 0), 15);
        due("swap(), one comes", x.swap(), STATE);
        due("fly()", x.fly(), 1);
        due("swap(), none comes", x.swap(), STATE);
        due("ACTS", x.count(6), 5);
    }

    private static void undo() {
        CHECK.part("undo");
        due("no flight", new ThirtyBirds().undo(), STATE);
        ThirtyBirds x = actsDone(0);
        due("no act", x.undo(), STATE);
        for (int act = 0; act < 6; act++) {
            act(x, act);
        }
        for (int left = 5; left >= 0; left--) {
            due("undo()", x.undo(), left);
            CHECK.holds("all is as ahead of act " + left, Check.seen(x).equals(Check.seen(actsDone(left))));
        }
        due("undo(), none", x.undo(), STATE);
        due("eat(0) then", x.eat(0), 23);
        due("undo()", x.undo(), 0);
        due("bird(0, 0)", x.bird(0, 0), 20);
    }

    private static ThirtyBirds actsDone(int acts) {
        ThirtyBirds x = Check.told("f3;v5,1;v6,2;v7,3;h20,0,0;d6,0,0;h9,1,0;");
        for (int act = 0; act < acts; act++) {
            act(x, act);
        }
        return x;
    }

    private static void act(ThirtyBirds x, int act) {
        switch (act) {
            case 0 -> due("swap()", x.swap(), 1);
            case 1 -> due("fly()", x.fly(), 1);
            case 2 -> due("call(1)", x.call(1), 3);
            case 3 -> due("eat(1)", x.eat(1), 7);
            case 4 -> due("keep(1, 1)", x.keep(1, 1), 2);
            default -> due("keep(1, 0)", x.keep(1, 0), 0);
        }
    }

    private static void undoForgets() {
        CHECK.part("undo, 24 at most");
        ThirtyBirds x = Check.told("f1;v5,1;h0,0,0;h9,0,0;");
        for (int i = 1; i <= 26; i++) {
            due("eat(0)", x.eat(0), i);
            due("ACTS", x.count(6), Math.min(i, 24));
        }
        due("undo()", x.undo(), 23);
        due("undo()", x.undo(), 22);
        due("bird(0, 0)", x.bird(0, 0), 24);
        due("eat(1)", x.eat(1), 10);
        due("ACTS", x.count(6), 23);
        for (int left = 22; left >= 0; left--) {
            due("undo()", x.undo(), left);
        }
        due("bird(0, 0), the oldest are forgotten", x.bird(0, 0), 2);
        due("bird(1, 0)", x.bird(1, 0), 9);
        due("undo(), none", x.undo(), STATE);
    }

    private static void birdAndValley() {
        CHECK.part("bird");
        ThirtyBirds x = Check.told("f1;v5,2;v1,4;h20,1,2;d20,0,0;o20,0,0;n20,0,5;p20,0,5;h6,3,4;");
        int[] takes = {2, 2, 4, 0, 0, 2};
        for (int bird = 0; bird < 6; bird++) {
            due("bird(" + bird + ", 5)", x.bird(bird, 5), takes[bird]);
        }
        due("LEAVES", x.bird(5, 1), 3);
        due("LOVES", x.bird(5, 2), 4);
        due("flies", x.bird(5, 3), 1);
        due("bird(0, -1)", x.bird(0, -1), BAD);
        due("bird(0, 6)", x.bird(0, 6), BAD);
        due("bird(6, 0)", x.bird(6, 0), BAD);
        due("bird(-1, 0)", x.bird(-1, 0), BAD);
        due("fly()", x.fly(), 30);
        int[] later = {0, 6, 8, 4, 3, 0};
        for (int bird = 0; bird < 6; bird++) {
            due("bird(" + bird + ", 5) later", x.bird(bird, 5), later[bird]);
        }
        due("flies no more", x.bird(5, 3), 0);
        x.fly();
        due("none comes", x.bird(1, 5), 0);
        ThirtyBirds y = Check.told("f1;v0,9;h2,0,0;");
        due("more than it has", y.bird(0, 5), 9);
        CHECK.part("valley");
        due("valley(1, 0)", x.valley(1, 0), 1);
        due("valley(1, 1)", x.valley(1, 1), 4);
        due("valley(1, 2)", x.valley(1, 2), 1);
        due("valley(2, 0)", x.valley(2, 0), BAD);
        due("valley(-1, 0)", x.valley(-1, 0), BAD);
        due("valley(0, 3)", x.valley(0, 3), BAD);
        due("valley(0, -1)", x.valley(0, -1), BAD);
    }

    private static void images() {
        CHECK.part("images");
        ThirtyBirds x = new ThirtyBirds();
        due("image(-1)", x.image(-1), BAD);
        due("image(2), BAD first", x.image(2), BAD);
        due("image(0), no flight", x.image(0), STATE);
        due("restore(2)", x.restore(2), BAD);
        due("restore(-1)", x.restore(-1), BAD);
        due("restore(0), none", x.restore(0), STATE);
        Check.tell(x, "f3;v5,1;v6,2;v7,3;h20,0,0;d6,0,0;h9,1,0;");
        x.swap();
        x.keep(1, 1);
        x.fly();
        String first = Check.seen(x);
        due("image(0)", x.image(0), 1);
        due("ACTS are as they were", x.count(6), 3);
        due("restore(1), none yet", x.restore(1), STATE);
        x.fly();
        due("image(1)", x.image(1), 1);
        String second = Check.seen(x);
        Check.tell(x, "f9;v0,9;p3,1,1;");
        due("eat(0)", x.eat(0), 12);
        due("restore(0)", x.restore(0), 1);
        CHECK.holds("as image 0", withoutActs(Check.seen(x)).equals(withoutActs(first)));
        due("no ACT can be undone", x.count(6), 0);
        due("undo()", x.undo(), STATE);
        due("eat(1) by its law", x.eat(1), 7);
        due("keep(1, 0)", x.keep(1, 0), 0);
        due("restore(0) again, the image is as it was", x.restore(0), 1);
        CHECK.holds("as image 0", withoutActs(Check.seen(x)).equals(withoutActs(first)));
        due("restore(1)", x.restore(1), 1);
        CHECK.holds("as image 1", withoutActs(Check.seen(x)).equals(withoutActs(second)));
        due("image(0) anew", x.image(0), 1);
        x.eat(0);
        due("restore(0)", x.restore(0), 1);
        CHECK.holds("as the new image 0", withoutActs(Check.seen(x)).equals(withoutActs(second)));
    }

    /** How many acts can be undone is the seventh number seen. */
    private static String withoutActs(String seen) {
        String[] parts = seen.split(" ");
        parts[6] = "";
        return String.join(" ", parts);
    }

    private static void counts() {
        CHECK.part("count");
        ThirtyBirds x = Check.told("f3;v5,1;v6,2;v7,3;h20,0,0;d5,0,0;h9,1,0;");
        x.row(2, 0, 1);
        x.row(4, 0, 0);
        x.fly();
        x.feed('f');
        int[] want = {2, 3, 3, 1, 1, 2, 1, 1};
        for (int what = 0; what < 8; what++) {
            due("count(" + what + ")", x.count(what), want[what]);
        }
        due("count(-1)", x.count(-1), BAD);
        due("count(8)", x.count(8), BAD);
    }
}
