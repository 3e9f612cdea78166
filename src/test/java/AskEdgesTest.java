/** The boundaries that the document names of KINDS and ASKS (promises 1, 32 to 35), and of long runs, sentence by sentence. */
public final class AskEdgesTest {
    private static final int NONE = ThirtyBirds.NONE, BAD = ThirtyBirds.BAD, STATE = ThirtyBirds.STATE;
    private static final int FULL = ThirtyBirds.FULL, KIND = -1000013;
    private static final String SORTS = "hdonp";
    private static final Check CHECK = new Check();

    public static void main(String[] args) {
        aNewObject();
        kindAsTold();
        takenAsOneOfAKind();
        askedByKind();
        askedNow();
        numbersOfAsks();
        traceOfEachAsk();
        traceIsEmptyAhead();
        traceByPlace();
        traceStays();
        callsOf512();
        CHECK.end();
    }

    private static void due(String call, int got, int want) {
        CHECK.due(call, got, want);
    }

    /** Birds of one sort, with as many as come to stand ahead of the one that is looked at. */
    private static ThirtyBirds withBird(int number, char sort, int strong, int leaves) {
        return Check.told("f3;v0,1;v20,0;" + "h9,0,0;".repeat(number) + sort + strong + "," + leaves + ",0;");
    }

    private static void aNewObject() {
        CHECK.part("ThirtyBirds(): No FLIGHT");
        ThirtyBirds x = new ThirtyBirds();
        for (int what = 0; what <= 7; what++) {
            due("count(" + what + ")", x.count(what), 0);
        }
        for (int bird = 0; bird < 6; bird++) {
            due("kind(" + bird + ")", x.kind(bird), BAD);
            due("as(" + bird + ", 0)", x.as(bird, 0), BAD);
            due("ask(" + bird + ", 0)", x.ask(bird, 0), BAD);
            due("eat(" + bird + ")", x.eat(bird), BAD);
        }
        for (int i = 0; i <= 16; i++) {
            due("trace(" + i + ")", x.trace(i), NONE);
        }
        due("arrive()", x.arrive(), STATE);
        due("undo()", x.undo(), STATE);
        due("status()", x.status(), 0);
        due("fault()", x.fault(), 0);
    }

    private static void kindAsTold() {
        CHECK.part("The KIND of a BIRD, as told (1 to 5)");
        for (int sort = 0; sort < 5; sort++) {
            for (int number = 0; number <= 5; number++) {
                ThirtyBirds x = withBird(number, SORTS.charAt(sort), 9, 0);
                due("kind(" + number + ")", x.kind(number), sort + 1);
                CHECK.span("kind", 0, number, BAD, x::kind);
            }
        }
    }

    private static void takenAsOneOfAKind() {
        CHECK.part("A BIRD is taken as one of a KIND (0 .. 5): its number; KIND: it is no such one");
        int[] kinds = {3, 7, 11, 17, 49};
        for (int sort = 0; sort < 5; sort++) {
            for (int number = 0; number <= 5; number++) {
                ThirtyBirds x = withBird(number, SORTS.charAt(sort), 9, 0);
                for (int kind = 0; kind <= 5; kind++) {
                    boolean is = (kinds[sort] >> kind) % 2 == 1;
                    due("as(" + number + ", " + kind + ") of " + SORTS.charAt(sort), x.as(number, kind), is ? number : KIND);
                    due("status()", x.status(), is ? 0 : 3);
                }
                CHECK.span("as(.., 0)", 0, number, BAD, bird -> x.as(bird, 0));
                CHECK.span("as(0, ..)", 0, 5, BAD, kind -> x.as(0, kind));
            }
        }
    }

    private static int size(int sort, int number, int strong, int leaves) {
        switch (sort) {
            case 0: return strong + number + leaves;
            case 1: return -(strong + 2 * (number + leaves));
            case 2: return strong + number + leaves - 1000;
            case 3: return strong - 100;
            default: return 2 * (strong - 100);
        }
    }

    private static int mark(int sort, int number, int strong, int leaves) {
        switch (sort) {
            case 0: return number + leaves;
            case 1: return 2 * (number + leaves);
            case 2: return number + leaves - 1000;
            case 3: return number - (strong - 100);
            default: return number - 2 * (strong - 100);
        }
    }

    private static void askedByKind() {
        CHECK.part("0 SIZE, 1 MARK: of each sort, by what each bird can be");
        for (int sort = 0; sort < 5; sort++) {
            for (int number = 0; number <= 5; number++) {
                for (int leaves = 0; leaves <= 6; leaves += 3) {
                    for (int strong = 0; strong <= 30; strong += 6) {
                        ThirtyBirds x = withBird(number, SORTS.charAt(sort), strong, leaves);
                        String bird = SORTS.charAt(sort) + " " + number + ", " + strong + ", " + leaves;
                        due("SIZE of " + bird, x.ask(number, 0), size(sort, number, strong, leaves));
                        due("MARK of " + bird, x.ask(number, 1), mark(sort, number, strong, leaves));
                    }
                }
            }
        }
    }

    private static void askedNow() {
        CHECK.part("10: STRONG, now");
        for (int sort = 0; sort < 5; sort++) {
            ThirtyBirds x = withBird(2, SORTS.charAt(sort), 9, 4);
            x.image(0);
            x.fly();
            int strong = x.bird(2, 0);
            due("SIZE, flown", x.ask(2, 0), size(sort, 2, strong, 4));
            x.eat(2);
            due("SIZE, fed", x.ask(2, 0), size(sort, 2, strong + 3, 4));
            due("MARK, fed", x.ask(2, 1), mark(sort, 2, strong + 3, 4));
            x.undo();
            due("SIZE, undone", x.ask(2, 0), size(sort, 2, strong, 4));
            x.fly();
            due("it turned back", x.bird(2, 3), 0);
            due("MARK of one that turned back", x.ask(2, 1), mark(sort, 2, x.bird(2, 0), 4));
            x.restore(0);
            due("SIZE, restored", x.ask(2, 0), size(sort, 2, 9, 4));
        }
    }

    private static void numbersOfAsks() {
        CHECK.part("An ASK (0, 1) of a BIRD. BAD");
        for (int sort = 0; sort < 5; sort++) {
            ThirtyBirds x = withBird(5, SORTS.charAt(sort), 9, 0);
            CHECK.span("ask(5, ..)", 0, 1, BAD, what -> x.ask(5, what));
            CHECK.span("ask(.., 0)", 0, 5, BAD, bird -> x.ask(bird, 0));
            CHECK.span("ask(.., 1)", 0, 5, BAD, bird -> x.ask(bird, 1));
        }
    }

    private static void traceIs(ThirtyBirds x, int... bodies) {
        for (int i = 0; i <= 17; i++) {
            due("trace(" + i + ")", x.trace(i), i < bodies.length ? bodies[i] : NONE);
        }
    }

    private static final int[][] TRACES = {{11, 10, 21, 20}, {21, 20}, {12, 11, 10, 24, 21, 20}, {24, 21, 20},
        {11, 10, 22, 21, 20}, {22, 21, 20}, {13, 10}, {23, 20, 13, 10}, {14, 13, 10}, {23, 20, 14, 13, 10}};

    private static void traceOfEachAsk() {
        CHECK.part("BODIES, each of which leaves its number in THE TRACE as it begins");
        for (int sort = 0; sort < 5; sort++) {
            for (int what = 0; what <= 1; what++) {
                ThirtyBirds x = withBird(1, SORTS.charAt(sort), 9, 2);
                x.ask(1, what);
                traceIs(x, TRACES[2 * sort + what]);
            }
        }
    }

    /** Every ask behind every other, so that a shorter trace follows a longer one. */
    private static void traceIsEmptyAhead() {
        CHECK.part("THE TRACE is empty ahead of it");
        for (int first = 0; first < 10; first++) {
            ThirtyBirds x = Check.told("f0;v0,0;h9,1,0;d9,1,0;o9,1,0;n9,1,0;p9,1,0;");
            for (int second = 0; second < 10; second++) {
                x.ask(first / 2, first % 2);
                x.ask(second / 2, second % 2);
                traceIs(x, TRACES[second]);
            }
        }
    }

    private static void traceByPlace() {
        CHECK.part("Number i of THE TRACE; NONE");
        ThirtyBirds x = withBird(0, 'd', 9, 1);
        x.ask(0, 0);
        CHECK.span("trace", 0, 5, NONE, x::trace);
        x.ask(0, 1);
        CHECK.span("trace", 0, 2, NONE, x::trace);
    }

    private static void traceStays() {
        CHECK.part("THE TRACE stays up to the next ASK");
        ThirtyBirds x = withBird(0, 'd', 9, 1);
        x.ask(0, 0);
        x.ask(1, 0);
        x.ask(0, 2);
        x.image(0);
        x.fly();
        x.eat(0);
        x.undo();
        x.restore(0);
        x.flight();
        Check.tell(x, "f0;v0,0;");
        traceIs(x, TRACES[2]);
    }

    private static void callsOf512() {
        CHECK.part("An object is used for at most 512 calls: acts");
        String text = "f1;v0,0;h0,0,0;";
        ThirtyBirds x = Check.told(text);
        int calls = text.length() + 1;
        for (int strong = 1; calls < 511; strong++) {
            due("eat(0), call " + calls, x.eat(0), Math.min(30, strong));
            calls++;
        }
        due("undo(), call 512", x.undo(), 23);
        CHECK.part("512 calls: fly() and undo()");
        ThirtyBirds y = Check.told(text);
        for (calls = text.length() + 1; calls < 512; calls += 2) {
            due("fly(), call " + calls, y.fly(), 1);
            due("undo(), call " + calls, y.undo(), 0);
        }
        CHECK.part("512 calls: bytes");
        ThirtyBirds z = new ThirtyBirds();
        for (calls = 1; calls <= 512; calls++) {
            due("feed(), call " + calls, z.feed('f'), calls <= 120 ? calls : FULL);
        }
        CHECK.part("512 calls: texts");
        ThirtyBirds w = new ThirtyBirds();
        for (int times = 1; times <= 32; times++) {
            due("flight(), call " + 16 * times, Check.tell(w, text), 1);
        }
        CHECK.part("512 calls: asks and images");
        ThirtyBirds v = Check.told(text);
        for (calls = text.length() + 1; calls <= 508; calls += 4) {
            due("ask(0, 0), call " + calls, v.ask(0, 0), 0);
            due("image(1), call " + calls, v.image(1), 1);
            due("restore(1), call " + calls, v.restore(1), 1);
            due("row(7, 2, 40), call " + calls, v.row(7, 2, 40), 40);
        }
    }
}
