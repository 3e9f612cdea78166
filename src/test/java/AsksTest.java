/** Promises 32 to 35: kinds, asks, the trace. */
public final class AsksTest {
    private static final int NONE = ThirtyBirds.NONE, BAD = ThirtyBirds.BAD, KIND = -1000013;
    private static final Check CHECK = new Check();

    public static void main(String[] args) {
        kinds();
        asks();
        asksNow();
        asksRefused();
        CHECK.end();
    }

    private static void due(String call, int got, int want) {
        CHECK.due(call, got, want);
    }

    /** A hawk, a dove, an old one, a nightingale, a peacock. */
    private static ThirtyBirds five() {
        return Check.told("f3;v0,2;h10,2,0;d10,3,0;o10,4,0;n10,5,5;p10,6,5;");
    }

    private static void kinds() {
        CHECK.part("kind, as");
        due("kind(0), no flight", new ThirtyBirds().kind(0), BAD);
        due("as(0, 0), no flight", new ThirtyBirds().as(0, 0), BAD);
        ThirtyBirds x = five();
        String[] isA = {"110000", "111000", "110100", "100010", "100011"};
        for (int bird = 0; bird < 5; bird++) {
            due("kind(" + bird + ")", x.kind(bird), bird + 1);
            for (int kind = 0; kind <= 5; kind++) {
                boolean is = isA[bird].charAt(kind) == '1';
                due("as(" + bird + ", " + kind + ")", x.as(bird, kind), is ? bird : KIND);
                due("status()", x.status(), is ? 0 : 3);
            }
        }
        due("kind(-1)", x.kind(-1), BAD);
        due("kind(5)", x.kind(5), BAD);
        due("as(-1, 0)", x.as(-1, 0), BAD);
        due("as(5, 0)", x.as(5, 0), BAD);
        due("as(0, -1)", x.as(0, -1), BAD);
        due("as(0, 6)", x.as(0, 6), BAD);
    }

    private static void askIs(ThirtyBirds x, int bird, int what, int answer, int... bodies) {
        due("ask(" + bird + ", " + what + ")", x.ask(bird, what), answer);
        traceIs(x, bodies);
    }

    private static void traceIs(ThirtyBirds x, int... bodies) {
        for (int i = 0; i < 17; i++) {
            due("trace(" + i + ")", x.trace(i), i < bodies.length ? bodies[i] : NONE);
        }
        due("trace(-1)", x.trace(-1), NONE);
        due("trace(LEAST)", x.trace(Integer.MIN_VALUE), NONE);
        due("trace(MOST)", x.trace(Integer.MAX_VALUE), NONE);
    }

    private static void asks() {
        CHECK.part("ask, trace");
        ThirtyBirds x = five();
        askIs(x, 0, 0, 12, 11, 10, 21, 20);
        askIs(x, 0, 1, 2, 21, 20);
        askIs(x, 1, 0, -18, 12, 11, 10, 24, 21, 20);
        askIs(x, 1, 1, 8, 24, 21, 20);
        askIs(x, 2, 0, -984, 11, 10, 22, 21, 20);
        askIs(x, 2, 1, -994, 22, 21, 20);
        askIs(x, 3, 0, -90, 13, 10);
        askIs(x, 3, 1, 93, 23, 20, 13, 10);
        askIs(x, 4, 0, -180, 14, 13, 10);
        askIs(x, 4, 1, 184, 23, 20, 14, 13, 10);
    }

    private static void asksNow() {
        CHECK.part("ask, by what is now");
        ThirtyBirds x = five();
        x.fly();
        askIs(x, 0, 0, 10, 11, 10, 21, 20);
        x.eat(4);
        askIs(x, 4, 0, -180, 14, 13, 10);
        x.eat(4);
        askIs(x, 4, 1, 178, 23, 20, 14, 13, 10);
    }

    private static void asksRefused() {
        CHECK.part("ask refused");
        due("no flight", new ThirtyBirds().ask(0, 0), BAD);
        ThirtyBirds x = five();
        x.ask(3, 0);
        due("ask(-1, 0)", x.ask(-1, 0), BAD);
        due("ask(5, 0)", x.ask(5, 0), BAD);
        due("ask(0, -1)", x.ask(0, -1), BAD);
        due("ask(0, 2)", x.ask(0, 2), BAD);
        CHECK.part("the trace stays when an ask is refused");
        traceIs(x, 13, 10);
    }
}
