/** The boundaries that the document names of what is flown and done (promises 9 to 16, 30, 31, 36), sentence by sentence. */
public final class FlyEdgesTest {
    private static final int BAD = ThirtyBirds.BAD, STATE = ThirtyBirds.STATE;
    private static final String WEAK = "h0,0,0;";
    private static final Check CHECK = new Check();

    public static void main(String[] args) {
        takesByKind();
        doveByEachThatTurnedBack();
        doveByOneThatTurnedBackTwice();
        ifTheBirdItLovesFlies();
        byWhatIsSoAhead();
        lessStrongThanAsked();
        unlessItIsKept();
        leavesByHowMany();
        leavesByMoreThanThereAre();
        overAndOver();
        overAndOverAllSix();
        doesNotFlyAnyMore();
        allNobodyTheLastNone();
        thirtyAtMost();
        keptOrNoMore();
        calledOnlyIfItTurnedBack();
        swappedTheNextTwo();
        actsOfEveryKind();
        acts24AtMost();
        theOldestIsForgotten();
        wouldTake();
        imagesTwo();
        imageAsItWasKept();
        countsOfAll();
        CHECK.end();
    }

    private static void due(String call, int got, int want) {
        CHECK.due(call, got, want);
    }

    /** Each sort against each LOSS, with all that it can have: it keeps what is above the loss, 0 at least. */
    private static void takesByKind() {
        CHECK.part("takes from each bird: of a hawk .. a peacock 3, whatever LOSS is (STRONG 0 at least)");
        String sorts = "hdonp";
        for (int loss = 0; loss <= 9; loss++) {
            int[] takes = {loss, loss, 2 * loss, loss, 3};
            for (int sort = 0; sort < 5; sort++) {
                for (int strong = 0; strong <= 30; strong++) {
                    ThirtyBirds x = Check.told("f0;v0," + loss + ";" + sorts.charAt(sort) + strong + ",0,5;");
                    due("what LOSS " + loss + " would take from " + sorts.charAt(sort), x.bird(0, 5), takes[sort]);
                    due("fly()", x.fly(), 1);
                    due("STRONG of " + sorts.charAt(sort) + strong, x.bird(0, 0), Math.max(0, strong - takes[sort]));
                }
            }
        }
    }

    private static void doveByEachThatTurnedBack() {
        CHECK.part("of a dove 1 more for each bird that turned back so far");
        for (int weak = 0; weak <= 5; weak++) {
            for (int loss = 0; loss <= 9; loss += 3) {
                int takes = loss + weak;
                ThirtyBirds x = Check.told("f0;v1,0;v0," + loss + ";d" + (takes + 1) + ",0,5;" + WEAK.repeat(weak));
                due("fly()", x.fly(), 1);
                due("turned back", x.count(5), weak);
                due("STRONG, none turned back ahead of this", x.bird(0, 0), takes + 1);
                due("what it would take", x.bird(0, 5), takes);
                due("fly()", x.fly(), 1);
                due("STRONG", x.bird(0, 0), 1);
            }
        }
    }

    private static void doveByOneThatTurnedBackTwice() {
        CHECK.part("a bird that turned back twice counts twice");
        ThirtyBirds x = Check.told("f0;v1,0;v1,0;v1,0;v1,0;v0,0;d30,0,5;" + WEAK);
        int strong = 30;
        for (int times = 1; times <= 4; times++) {
            strong -= times - 1;
            due("fly()", x.fly(), 1);
            due("turned back", x.count(5), times);
            due("STRONG of the dove", x.bird(0, 0), strong);
            due("call(1)", x.call(1), 3);
            due("turned back, called", x.count(5), times);
        }
        due("what the last would take", x.bird(0, 5), 4);
    }

    private static void ifTheBirdItLovesFlies() {
        CHECK.part("nothing if the bird it LOVES flies");
        for (String sort : new String[] {"n", "p"}) {
            int takes = sort.equals("n") ? 4 : 3;
            // Of six birds 1, 3 and 5 turn back in the first valley; 0, 2 and 4 fly on.
            for (int loves = 0; loves <= 5; loves++) {
                ThirtyBirds x = Check.told("f0;v1,0;v0,4;" + sort + "9,0," + loves + ";" + WEAK + "h9,0,0;" + WEAK
                    + "h9,0,0;" + WEAK);
                due("what " + sort + " loses, all fly", x.bird(0, 5), 0);
                x.fly();
                int want = loves % 2 == 0 ? 0 : takes;
                due("what " + sort + " loses, that loves " + loves, x.bird(0, 5), want);
                x.fly();
                due("STRONG", x.bird(0, 0), 9 - want);
            }
            CHECK.part("LOVES: a bird, told or not, itself too");
            due("itself", Check.told("f0;v0,4;" + sort + "9,0,0;").bird(0, 5), 0);
            for (int loves = 1; loves <= 5; loves++) {
                due("not told", Check.told("f0;v0,4;" + sort + "9,0," + loves + ";").bird(0, 5), takes);
            }
            ThirtyBirds x = Check.told("f0;v1,0;v0,4;" + sort + "9,0,1;" + WEAK);
            x.fly();
            x.call(1);
            due("one that was called", x.bird(0, 5), 0);
        }
    }

    private static void byWhatIsSoAhead() {
        CHECK.part("By what is so ahead of the valley");
        ThirtyBirds x = Check.told("f0;v5,2;n5,0,2;p5,0,2;h6,0,0;d7,0,0;");
        due("fly()", x.fly(), 11);
        due("a nightingale, whom it loves turns back here", x.bird(0, 0), 5);
        due("a peacock, whom it loves turns back here", x.bird(1, 0), 5);
        due("a dove, one turns back here", x.bird(3, 0), 5);
    }

    private static void lessStrongThanAsked() {
        CHECK.part("if it is less STRONG than the valley ASKS");
        for (int asks = 0; asks <= 20; asks++) {
            for (int strong = 0; strong <= 30; strong++) {
                String text = "f0;v" + asks + ",0;h" + strong + ",0,0;";
                due("fly() of " + text, Check.told(text).fly(), strong < asks ? 0 : 1);
            }
        }
        CHECK.part("takes, Then each bird turns back");
        due("fly(), as strong as asked behind the loss", Check.told("f0;v5,3;h8,0,0;").fly(), 1);
        due("fly(), one less", Check.told("f0;v5,3;h7,0,0;").fly(), 0);
        due("fly(), nothing left, nothing asked", Check.told("f0;v0,9;h1,0,0;").fly(), 1);
        due("fly(), nothing left, 1 asked", Check.told("f0;v1,9;h9,0,0;").fly(), 0);
    }

    private static void unlessItIsKept() {
        CHECK.part("unless it is KEPT");
        ThirtyBirds x = Check.told("f0;v20,1;v20,1;h9,1,0;h9,1,0;");
        x.keep(0, 1);
        due("fly()", x.fly(), 1);
        due("STRONG of the kept one", x.bird(0, 0), 8);
        due("turned back", x.count(5), 1);
        x.keep(0, 0);
        due("fly(), kept no more", x.fly(), 0);
        due("turned back", x.count(5), 2);
        CHECK.part("of birds that fly and are not KEPT");
        ThirtyBirds y = Check.told("f0;v1,0;v0,0;h9,1,0;h9,1,0;" + WEAK);
        y.keep(1, 1);
        due("fly()", y.fly(), 2);
        due("turned back", y.count(5), 2);
        due("fly()", y.fly(), 2);
        y.undo();
        y.keep(1, 0);
        due("fly(), kept no more: by those that turned back before", y.fly(), 0);
    }

    private static void leavesByHowMany() {
        CHECK.part("whose LEAVES is above 0 and no more than how many turned back by then");
        for (int weak = 0; weak <= 5; weak++) {
            for (int leaves = 0; leaves <= 6; leaves++) {
                String text = "f0;v1,0;h9," + leaves + ",0;" + WEAK.repeat(weak);
                ThirtyBirds x = Check.told(text);
                boolean isLeaving = leaves > 0 && leaves <= weak;
                due("fly() of " + text, x.fly(), isLeaving ? 0 : 1);
                due("turned back", x.count(5), weak + (isLeaving ? 1 : 0));
            }
        }
    }

    private static void leavesByMoreThanThereAre() {
        CHECK.part("all in all, in this flight: LEAVES 6");
        ThirtyBirds x = Check.told("f0;v1,0;v1,0;v0,0;h9,6,0;" + WEAK.repeat(5));
        due("fly(), five turn back", x.fly(), 1);
        due("call(1)", x.call(1), 3);
        due("fly(), one more is six", x.fly(), 0);
        due("turned back", x.count(5), 7);
        due("call(0)", x.call(0), 1);
        due("fly(), a called one leaves though none is too weak", x.fly(), 0);
        due("turned back", x.count(5), 8);
        CHECK.part("all in all: of valleys before, too");
        ThirtyBirds y = Check.told("f0;v1,0;v2,0;h9,2,0;" + WEAK + "h1,0,0;");
        due("fly(), one", y.fly(), 5);
        due("fly(), two", y.fly(), 0);
        due("turned back", y.count(5), 3);
    }

    private static void overAndOver() {
        CHECK.part("over and over until nobody does");
        due("one by one, told upward", Check.told("f0;v1,0;" + WEAK + "h9,1,0;h9,2,0;h9,3,0;h9,4,0;h9,5,0;").fly(), 0);
        due("one by one, told downward", Check.told("f0;v1,0;h9,5,0;h9,4,0;h9,3,0;h9,2,0;h9,1,0;" + WEAK).fly(), 0);
        due("up to a gap", Check.told("f0;v1,0;" + WEAK + "h9,1,0;h9,2,0;h9,4,0;h9,5,0;h9,6,0;").fly(), 56);
        due("two at once", Check.told("f0;v1,0;h9,3,0;h9,1,0;h9,1,0;h9,4,0;h9,6,0;" + WEAK).fly(), 16);
    }

    /** Once one turned back and was called, all six may leave one behind the other. */
    private static void overAndOverAllSix() {
        CHECK.part("over and over, six times");
        for (int last = 5; last <= 6; last++) {
            ThirtyBirds x = Check.told("f9;v1,0;v1,0;h0," + last + ",0;h9,5,0;h9,4,0;h9,3,0;h9,2,0;h9,1,0;");
            for (int bird = 1; bird < 6; bird++) {
                x.keep(bird, 1);
            }
            due("fly()", x.fly(), 62);
            for (int bird = 1; bird < 6; bird++) {
                x.keep(bird, 0);
            }
            due("call(0)", x.call(0), 63);
            due("eat(0)", x.eat(0), 9);
            due("fly()", x.fly(), 0);
            due("turned back", x.count(5), 7);
        }
    }

    private static void doesNotFlyAnyMore() {
        CHECK.part("Who turned back does not fly any more");
        ThirtyBirds x = Check.told("f0;v5,1;v5,1;v5,1;h4,1,0;h20,0,0;");
        due("fly()", x.fly(), 2);
        due("STRONG", x.bird(0, 0), 3);
        due("fly()", x.fly(), 2);
        due("STRONG, nothing is taken", x.bird(0, 0), 3);
        due("turned back once", x.count(5), 1);
        due("would take nothing", x.bird(0, 5), 0);
        due("flies", x.bird(0, 3), 0);
    }

    private static void allNobodyTheLastNone() {
        CHECK.part("a valley by which nobody turns back");
        ThirtyBirds x = Check.told("f0;v0,0;v20,9;v0,0;v1,0;v20,9;h19,1,0;d19,1,0;o19,1,0;n19,1,0;p19,1,0;h19,1,0;");
        due("THROUGH", x.count(3), 0);
        due("fly()", x.fly(), 63);
        due("turned back", x.count(5), 0);
        due("THROUGH", x.count(3), 1);
        CHECK.part("a valley by which all turn back");
        due("fly()", x.fly(), 0);
        due("turned back", x.count(5), 6);
        due("THROUGH", x.count(3), 2);
        CHECK.part("nobody flies");
        due("fly()", x.fly(), 0);
        due("fly()", x.fly(), 0);
        due("turned back", x.count(5), 6);
        CHECK.part("the last one");
        due("fly()", x.fly(), 0);
        due("THROUGH", x.count(3), 5);
        CHECK.part("STATE: no FLIGHT, none comes");
        due("fly()", x.fly(), STATE);
        due("THROUGH", x.count(3), 5);
        due("no flight", new ThirtyBirds().fly(), STATE);
        for (int valleys = 1; valleys <= 5; valleys++) {
            ThirtyBirds y = Check.told("f0;" + "v0,0;".repeat(valleys) + "h9,0,0;");
            for (int through = 1; through <= valleys; through++) {
                due("fly()", y.fly(), 1);
                due("THROUGH", y.count(3), through);
            }
            due("fly(), none comes", y.fly(), STATE);
            due("undo()", y.undo(), valleys - 1);
            due("fly(), one comes again", y.fly(), 1);
        }
    }

    private static void thirtyAtMost() {
        CHECK.part("it is FEED STRONGER (30 at most)");
        for (int feed = 0; feed <= 9; feed++) {
            for (int strong = 0; strong <= 30; strong++) {
                ThirtyBirds x = Check.told("f" + feed + ";v0,0;h7,0,0;h" + strong + ",0,0;");
                int want = strong + feed > 30 ? 30 : strong + feed;
                due("eat() of " + strong + " by " + feed, x.eat(1), want);
                due("STRONG", x.bird(1, 0), want);
                due("STRONG of another", x.bird(0, 0), 7);
                due("ACTS, also if it is no stronger", x.count(6), 1);
            }
        }
        CHECK.part("eat: one that turned back, and none comes");
        ThirtyBirds x = Check.told("f4;v1,0;" + WEAK);
        x.fly();
        due("eat(0)", x.eat(0), 4);
        due("it flies", x.bird(0, 3), 0);
        CHECK.span("eat", 0, 5, BAD, bird -> Check.told(Check.READER).eat(bird));
    }

    private static void keptOrNoMore() {
        CHECK.part("keep: KEPT (1), or no more (0); STATE: it is so");
        ThirtyBirds x = Check.told("f0;v0,0;" + WEAK.repeat(6));
        int kept = 0;
        for (int bird = 0; bird < 6; bird++) {
            due("keep(" + bird + ", 0), it is so", x.keep(bird, 0), STATE);
            kept += 1 << bird;
            due("keep(" + bird + ", 1)", x.keep(bird, 1), kept);
            due("keep(" + bird + ", 1), it is so", x.keep(bird, 1), STATE);
            due("bird(" + bird + ", 4)", x.bird(bird, 4), 1);
        }
        for (int bird = 0; bird < 6; bird++) {
            kept -= 1 << bird;
            due("keep(" + bird + ", 0)", x.keep(bird, 0), kept);
            due("keep(" + bird + ", 0), it is so", x.keep(bird, 0), STATE);
            due("bird(" + bird + ", 4)", x.bird(bird, 4), 0);
        }
        due("ACTS", x.count(6), 12);
        CHECK.span("keep(.., 1)", 0, 5, BAD, bird -> Check.told(Check.READER).keep(bird, 1));
        CHECK.span("keep(0, ..)", 0, 1, BAD, on -> Check.told(Check.READER).keep(0, on));
    }

    private static void calledOnlyIfItTurnedBack() {
        CHECK.part("call: one that turned back flies again; STATE: it flies");
        ThirtyBirds x = Check.told("f0;v1,0;" + WEAK.repeat(6));
        for (int bird = 0; bird < 6; bird++) {
            due("call(" + bird + "), it flies", x.call(bird), STATE);
        }
        due("fly()", x.fly(), 0);
        int flying = 0;
        for (int bird = 5; bird >= 0; bird--) {
            flying += 1 << bird;
            due("call(" + bird + ")", x.call(bird), flying);
            due("call(" + bird + "), it flies", x.call(bird), STATE);
        }
        due("turned back", x.count(5), 6);
        due("ACTS", x.count(6), 7);
        CHECK.span("call", 0, 5, BAD, bird -> Check.told(Check.READER).call(bird));
    }

    private static void swappedTheNextTwo() {
        CHECK.part("swap: STATE: no FLIGHT, fewer than two come");
        due("no flight", new ThirtyBirds().swap(), STATE);
        for (int valleys = 1; valleys <= 5; valleys++) {
            ThirtyBirds x = Check.told("f0;" + "v0,0;".repeat(valleys) + "h9,0,0;");
            // Each time the first valley goes one place on, as the one behind it is flown through ahead of it.
            for (int through = 0; through < valleys - 1; through++) {
                due("swap(), " + (valleys - through) + " come", x.swap(), through + 1);
                due("place of valley 0", x.valley(0, 2), through + 1);
                due("place of the next", x.valley(through + 1, 2), through);
                for (int later = through + 2; later < valleys; later++) {
                    due("place of a later one", x.valley(later, 2), later);
                }
                x.fly();
            }
            due("swap(), one comes", x.swap(), STATE);
            x.fly();
            due("swap(), none comes", x.swap(), STATE);
            for (int valley = 0; valley < valleys; valley++) {
                due("place in the end", x.valley(valley, 2), valley == 0 ? valleys - 1 : valley - 1);
            }
        }
        CHECK.part("swap, and back");
        ThirtyBirds y = Check.told("f0;v0,0;v0,0;");
        due("swap()", y.swap(), 1);
        due("swap()", y.swap(), 0);
        due("ACTS", y.count(6), 2);
    }

    private static ThirtyBirds sixActs(int acts) {
        ThirtyBirds x = Check.told("f3;v5,1;v6,2;v7,3;h20,0,0;d5,0,0;h9,1,0;");
        int[] want = {1, 1, 3, 10, 1, 0};
        for (int act = 0; act < acts; act++) {
            due("act " + act, sixth(x, act), want[act]);
        }
        return x;
    }

    private static int sixth(ThirtyBirds x, int act) {
        switch (act) {
            case 0: return x.swap();
            case 1: return x.fly();
            case 2: return x.call(1);
            case 3: return x.eat(2);
            case 4: return x.keep(0, 1);
            default: return x.keep(0, 0);
        }
    }

    private static void actsOfEveryKind() {
        CHECK.part("each can be undone, the latest first");
        ThirtyBirds x = sixActs(6);
        due("ACTS", x.count(6), 6);
        for (int left = 5; left >= 0; left--) {
            due("undo()", x.undo(), left);
            CHECK.holds("as ahead of act " + left, Check.seen(x).equals(Check.seen(sixActs(left))));
        }
        due("undo(), none", x.undo(), STATE);
    }

    private static void acts24AtMost() {
        CHECK.part("24 at most are kept");
        ThirtyBirds x = Check.told("f1;v0,0;h0,0,0;");
        for (int act = 1; act <= 24; act++) {
            due("eat(0)", x.eat(0), act);
            due("ACTS", x.count(6), act);
        }
        for (int left = 23; left >= 0; left--) {
            due("undo()", x.undo(), left);
            due("STRONG", x.bird(0, 0), left);
            due("ACTS", x.count(6), left);
        }
        due("undo(), none", x.undo(), STATE);
        due("STRONG as told", x.bird(0, 0), 0);
    }

    private static void theOldestIsForgotten() {
        CHECK.part("of more the oldest is forgotten");
        for (int more = 1; more <= 6; more++) {
            ThirtyBirds x = Check.told("f1;v0,0;h0,0,0;");
            for (int act = 1; act <= 24 + more; act++) {
                due("eat(0)", x.eat(0), act);
            }
            due("ACTS", x.count(6), 24);
            for (int left = 23; left >= 0; left--) {
                due("undo()", x.undo(), left);
                due("STRONG", x.bird(0, 0), left + more);
            }
            due("undo(), the oldest are forgotten", x.undo(), STATE);
            due("STRONG", x.bird(0, 0), more);
        }
        CHECK.part("of more the oldest is forgotten, of any kind");
        ThirtyBirds y = Check.told("f1;v0,0;v9,1;h9,0,0;h9,0,0;");
        due("swap()", y.swap(), 1);
        due("fly()", y.fly(), 0);
        for (int act = 0; act < 23; act++) {
            due("eat(1)", y.eat(1), Math.min(30, 9 + act));
        }
        for (int left = 23; left >= 0; left--) {
            due("undo()", y.undo(), left);
        }
        due("fly() is undone", y.count(4), 3);
        due("swap() is not", y.valley(1, 2), 0);
        due("undo()", y.undo(), STATE);
    }

    private static void wouldTake() {
        CHECK.part("what the next VALLEY would take (not flying, none comes: 0)");
        ThirtyBirds x = Check.told("f0;v5,4;v5,2;h20,0,0;h1,0,0;");
        due("the next", x.bird(0, 5), 4);
        due("more than it has", x.bird(1, 5), 4);
        x.swap();
        due("the next, swapped", x.bird(0, 5), 2);
        x.fly();
        due("not flying", x.bird(1, 5), 0);
        due("the last", x.bird(0, 5), 4);
        x.fly();
        due("none comes", x.bird(0, 5), 0);
        CHECK.span("bird(0, ..)", 0, 5, BAD, what -> Check.told(Check.READER).bird(0, what));
        CHECK.span("valley(0, ..)", 0, 2, BAD, what -> Check.told(Check.READER).valley(0, what));
        due("bird() without a flight", new ThirtyBirds().bird(0, 0), BAD);
        due("valley() without a flight", new ThirtyBirds().valley(0, 0), BAD);
    }

    private static void imagesTwo() {
        CHECK.part("An IMAGE (0, 1); STATE: no FLIGHT; none was kept");
        CHECK.span("image", 0, 1, BAD, k -> Check.told(Check.READER).image(k));
        CHECK.span("restore", 0, 1, BAD, k -> Check.told(Check.READER).restore(k));
        for (int k = 0; k <= 1; k++) {
            ThirtyBirds x = new ThirtyBirds();
            due("image(" + k + "), no flight", x.image(k), STATE);
            due("restore(" + k + "), none was kept", x.restore(k), STATE);
            Check.tell(x, "f0;v0,0;");
            due("restore(" + k + "), none was kept", x.restore(k), STATE);
            due("image(" + k + ") of a flight without birds", x.image(k), 1);
            due("restore(" + k + ")", x.restore(k), 1);
            due("restore() of the other", x.restore(1 - k), STATE);
            due("VALLEYS", x.count(1), 1);
        }
    }

    private static void imageAsItWasKept() {
        CHECK.part("The FLIGHT is as an IMAGE kept it (no ACT can be undone then)");
        ThirtyBirds x = sixActs(4);
        String kept = withoutActs(Check.seen(x));
        due("image(1)", x.image(1), 1);
        due("ACTS can be undone yet", x.count(6), 4);
        x.keep(2, 1);
        x.fly();
        due("image(0)", x.image(0), 1);
        String later = withoutActs(Check.seen(x));
        due("undo()", x.undo(), 5);
        due("flight()", Check.tell(x, "f9;v20,9;"), 0);
        for (int times = 0; times < 2; times++) {
            due("restore(1)", x.restore(1), 1);
            CHECK.holds("as image 1", withoutActs(Check.seen(x)).equals(kept));
            due("ACTS", x.count(6), 0);
            due("undo()", x.undo(), STATE);
            due("eat(0), FEED as kept", x.eat(0), 21);
            due("restore(0)", x.restore(0), 1);
            CHECK.holds("as image 0", withoutActs(Check.seen(x)).equals(later));
            due("undo()", x.undo(), STATE);
            due("keep(2, 0)", x.keep(2, 0), 0);
        }
        due("image(0) in place of the one before", x.image(0), 1);
        due("restore(0)", x.restore(0), 1);
        due("kept no more", x.bird(2, 4), 0);
        due("restore(1)", x.restore(1), 1);
        CHECK.holds("as image 1", withoutActs(Check.seen(x)).equals(kept));
    }

    /** How many acts can be undone is the seventh number seen. */
    private static String withoutActs(String seen) {
        String[] parts = seen.split(" ");
        parts[6] = "";
        return String.join(" ", parts);
    }

    private static void countsOfAll() {
        CHECK.part("count: 0 ROWS .. 7 bytes on the tape");
        CHECK.span("count", 0, 7, BAD, what -> new ThirtyBirds().count(what));
        CHECK.span("count, of a flight", 0, 7, BAD, what -> Check.told(Check.READER).count(what));
        ThirtyBirds x = Check.told("f0;v1,0;v0,0;h9,0,0;" + WEAK.repeat(2));
        for (int row = 0; row < 8; row++) {
            x.row(row, 0, 0);
        }
        x.fly();
        x.call(1);
        Check.put(x, "f0;v");
        int[] want = {8, 2, 3, 1, 3, 2, 2, 4};
        for (int what = 0; what < 8; what++) {
            due("count(" + what + ")", x.count(what), want[what]);
        }
    }
}
