import java.util.function.Supplier;
import java.util.function.ToIntFunction;

/**
 * "What is refused, or found, changes nothing but status()", of every refusal of every call in every state that has
 * it; which refusal is "the first of these that fits"; and "FORETOLD (nothing changes)".
 */
public final class RefusedTest {
    private static final int NONE = ThirtyBirds.NONE, BAD = ThirtyBirds.BAD;
    private static final int STATE = ThirtyBirds.STATE, FULL = ThirtyBirds.FULL;
    private static final int NULL = -1000011, PLACE = -1000012, KIND = -1000013, SIZE = -1000014, STORE = -1000015;
    private static final int LEAST = Integer.MIN_VALUE, MOST = Integer.MAX_VALUE;
    private static final Check CHECK = new Check();
    /** The state that the refusals are held against, and what can be seen of it. */
    private static Supplier<ThirtyBirds> state;
    private static String ahead;

    public static void main(String[] args) {
        begin("no flight", RefusedTest::noFlight);
        rowsRefused();
        birdsRefused(0);
        stateWithoutFlight();
        begin("midway", RefusedTest::midway);
        rowsRefused();
        birdsRefused(4);
        actsRefused();
        numbersRefused();
        rowsAskedRefused();
        kindsRefused();
        foretoldChangesNothing();
        begin("one valley comes", RefusedTest::oneComes);
        oneComesRefused();
        begin("none comes", RefusedTest::noneComes);
        noneComesRefused();
        begin("no act", RefusedTest::noAct);
        refused("undo()", ThirtyBirds::undo, STATE);
        begin("an image of the other number alone", RefusedTest::oneImage);
        refused("restore(0), none was kept", x -> x.restore(0), STATE);
        begin("a full tape", RefusedTest::fullTape);
        refused("feed('f')", x -> x.feed('f'), FULL);
        refused("feed(256), BAD ahead of FULL", x -> x.feed(256), BAD);
        refused("feed(-1), BAD ahead of FULL", x -> x.feed(-1), BAD);
        CHECK.end();
    }

    private static void begin(String name, Supplier<ThirtyBirds> made) {
        CHECK.part(name);
        state = made;
        ahead = Probe.all(made);
    }

    /** On a status of 0 and on another, so that one that is left is told from one that is set. */
    private static void refused(String call, ToIntFunction<ThirtyBirds> on, int answer) {
        boolean isFinding = answer <= NULL && answer >= STORE;
        for (int status = 0; status <= 2; status += 2) {
            ThirtyBirds x = withStatus(state.get(), status);
            CHECK.due(call, on.applyAsInt(x), answer);
            CHECK.due("status() behind " + call, x.status(), isFinding ? -1000010 - answer : status);
        }
        stays(call, on);
    }

    private static void stays(String call, ToIntFunction<ThirtyBirds> on) {
        String behind = Probe.all(() -> {
            ThirtyBirds x = state.get();
            on.applyAsInt(x);
            return x;
        });
        CHECK.holds(call + " changes nothing, but from\n" + ahead + "\nto\n" + behind, behind.equals(ahead));
    }

    private static ThirtyBirds withStatus(ThirtyBirds x, int status) {
        CHECK.due("set() for status " + status, x.set(0, status == 0 ? 0 : -1, 63), status == 0 ? 63 : PLACE);
        return x;
    }

    /** Rows 0 to 3, of which 3 has no items; 4 to 7 are missing. A text on the tape, a fault of before. */
    private static ThirtyBirds noFlight() {
        ThirtyBirds x = new ThirtyBirds();
        Check.tell(x, "f10;");
        putRow(x, 0, 0, 63, 60, 0);
        putRow(x, 1, 1, 62, 48);
        putRow(x, 2, 2, 32, 56, 0, 63);
        putRow(x, 3, 0);
        Check.put(x, "f1;v2,3;h4,5,1;");
        return x;
    }

    private static void putRow(ThirtyBirds x, int row, int lane, int... items) {
        x.row(row, lane, items.length);
        for (int i = 0; i < items.length; i++) {
            x.set(row, i, items[i]);
        }
    }

    /** Birds 0, 1, 2 fly, 1 is kept, 3 turned back; valley 0 is behind them, 2 and then 1 come; seven acts, two images. */
    private static ThirtyBirds midway() {
        ThirtyBirds x = flown();
        Check.put(x, "f1;v2,3;h4,5,1;");
        return x;
    }

    private static ThirtyBirds flown() {
        ThirtyBirds x = noFlight();
        x.flight();
        CHECK.due("flight()", Check.tell(x, "f3;v2,1;v6,2;v7,3;h20,2,1;d9,3,5;o16,1,0;n1,0,5;"), 4);
        x.keep(1, 1);
        x.image(0);
        x.eat(0);
        CHECK.due("fly()", x.fly(), 2);
        x.call(0);
        CHECK.due("call(2)", x.call(2), 7);
        CHECK.due("swap()", x.swap(), 2);
        x.image(1);
        CHECK.due("eat(1)", x.eat(1), 11);
        x.ask(1, 0);
        return x;
    }

    private static ThirtyBirds oneComes() {
        ThirtyBirds x = midway();
        CHECK.due("keep(0, 1)", x.keep(0, 1), 3);
        CHECK.due("fly()", x.fly(), 3);
        return x;
    }

    private static ThirtyBirds noneComes() {
        ThirtyBirds x = oneComes();
        CHECK.due("fly()", x.fly(), 3);
        return x;
    }

    private static ThirtyBirds noAct() {
        ThirtyBirds x = midway();
        CHECK.due("restore(1)", x.restore(1), 1);
        return x;
    }

    private static ThirtyBirds oneImage() {
        ThirtyBirds x = noFlight();
        x.flight();
        CHECK.due("flight()", Check.tell(x, "f3;v2,1;v6,2;v7,3;h20,2,1;d9,3,5;o16,1,0;n1,0,5;"), 4);
        x.keep(1, 1);
        CHECK.due("fly()", x.fly(), 2);
        x.image(1);
        CHECK.due("call(0)", x.call(0), 3);
        x.ask(1, 0);
        Check.put(x, "f1;v2,3;h4,5,1;");
        return x;
    }

    private static ThirtyBirds fullTape() {
        ThirtyBirds x = flown();
        Check.put(x, "f1;v2,3;h4,5,1;");
        for (int bytes = x.count(7); bytes < 120; bytes++) {
            x.feed('h');
        }
        return x;
    }

    private static void rowsRefused() {
        for (int row : new int[] {-1, 8, LEAST, MOST}) {
            refused("row(" + row + ", 0, 1)", x -> x.row(row, 0, 1), BAD);
            refused("row(" + row + ", 0, -1), BAD ahead of SIZE", x -> x.row(row, 0, -1), BAD);
            refused("set(" + row + ", 0, 1)", x -> x.set(row, 0, 1), BAD);
            refused("copy(" + row + ", 0, 0, 0, 1)", x -> x.copy(row, 0, 0, 0, 1), BAD);
            refused("copy(0, 0, " + row + ", 0, 1)", x -> x.copy(0, 0, row, 0, 1), BAD);
            refused("copy(4, 0, " + row + ", 0, 1), BAD ahead of NULL", x -> x.copy(4, 0, row, 0, 1), BAD);
            refused("copy(" + row + ", -1, 4, -1, -1), BAD ahead of all", x -> x.copy(row, -1, 4, -1, -1), BAD);
            refused("drop(" + row + ")", x -> x.drop(row), BAD);
        }
        for (int lane : new int[] {-1, 3, LEAST, MOST}) {
            refused("row(0, " + lane + ", 1)", x -> x.row(0, lane, 1), BAD);
            refused("row(5, " + lane + ", -1), BAD ahead of SIZE", x -> x.row(5, lane, -1), BAD);
        }
        refused("row(0, 1, 41)", x -> x.row(0, 1, 41), BAD);
        refused("row(5, 1, 41)", x -> x.row(5, 1, 41), BAD);
        refused("row(0, 1, MOST)", x -> x.row(0, 1, MOST), BAD);
        refused("row(0, 1, -1)", x -> x.row(0, 1, -1), SIZE);
        refused("row(5, 1, LEAST)", x -> x.row(5, 1, LEAST), SIZE);
        placesRefused();
        copiesRefused();
        refused("drop(4)", x -> x.drop(4), NULL);
        refused("feed(-1)", x -> x.feed(-1), BAD);
        refused("feed(256)", x -> x.feed(256), BAD);
        refused("count(-1)", x -> x.count(-1), BAD);
        refused("count(8)", x -> x.count(8), BAD);
    }

    private static void placesRefused() {
        refused("set(4, 0, 1)", x -> x.set(4, 0, 1), NULL);
        refused("set(4, -1, 1), NULL ahead of PLACE", x -> x.set(4, -1, 1), NULL);
        refused("set(0, -1, 1)", x -> x.set(0, -1, 1), PLACE);
        refused("set(0, 3, 1)", x -> x.set(0, 3, 1), PLACE);
        refused("set(3, 0, 1)", x -> x.set(3, 0, 1), PLACE);
        refused("set(2, MOST, 1)", x -> x.set(2, MOST, 1), PLACE);
        refused("set(2, LEAST, 1)", x -> x.set(2, LEAST, 1), PLACE);
    }

    private static void copiesRefused() {
        refused("copy, a is missing", x -> x.copy(4, 0, 0, 0, 1), NULL);
        refused("copy, b is missing", x -> x.copy(0, 0, 4, 0, 1), NULL);
        refused("copy, NULL ahead of STORE and PLACE", x -> x.copy(1, -1, 4, 9, -1), NULL);
        refused("copy, bytes to shorts", x -> x.copy(0, 0, 1, 0, 1), STORE);
        refused("copy, ints to shorts", x -> x.copy(2, 0, 1, 0, 1), STORE);
        refused("copy, none of another lane", x -> x.copy(0, 0, 2, 0, 0), STORE);
        refused("copy, STORE ahead of PLACE", x -> x.copy(0, -1, 2, 9, -1), STORE);
        refused("copy, i -1", x -> x.copy(0, -1, 0, 0, 1), PLACE);
        refused("copy, j -1", x -> x.copy(0, 0, 0, -1, 1), PLACE);
        refused("copy, n -1", x -> x.copy(0, 1, 0, 0, -1), PLACE);
        refused("copy, i beyond the end", x -> x.copy(0, 1, 0, 0, 3), PLACE);
        refused("copy, j beyond the end", x -> x.copy(0, 0, 0, 1, 3), PLACE);
        refused("copy, n beyond both ends", x -> x.copy(0, 0, 0, 0, 4), PLACE);
        refused("copy, none from beyond the end", x -> x.copy(0, 4, 0, 0, 0), PLACE);
        refused("copy, none to beyond the end", x -> x.copy(0, 0, 3, 1, 0), PLACE);
        refused("copy, i and n wrap around", x -> x.copy(0, MOST, 0, 0, MOST), PLACE);
        refused("copy, j and n wrap around", x -> x.copy(0, 0, 0, MOST, 1), PLACE);
    }

    /** "There is no such thing" of a bird: below 0, and from how many there are on. */
    private static void birdsRefused(int birds) {
        for (int bird : new int[] {-1, birds, 6, LEAST, MOST}) {
            refused("eat(" + bird + ")", x -> x.eat(bird), BAD);
            refused("keep(" + bird + ", 1)", x -> x.keep(bird, 1), BAD);
            refused("keep(" + bird + ", 0), BAD ahead of STATE", x -> x.keep(bird, 0), BAD);
            refused("call(" + bird + ")", x -> x.call(bird), BAD);
            refused("bird(" + bird + ", 0)", x -> x.bird(bird, 0), BAD);
            refused("where(" + bird + ")", x -> x.where(bird), BAD);
            refused("strength(" + bird + ", 0)", x -> x.strength(bird, 0), BAD);
            refused("catches(" + bird + ")", x -> x.catches(bird), BAD);
            refused("fits(" + bird + ", 0, 0, 1, 0)", x -> x.fits(bird, 0, 0, 1, 0), BAD);
            refused("fits(" + bird + ", 4, 0, 1, 0), BAD ahead of NULL", x -> x.fits(bird, 4, 0, 1, 0), BAD);
            refused("kind(" + bird + ")", x -> x.kind(bird), BAD);
            refused("as(" + bird + ", 0)", x -> x.as(bird, 0), BAD);
            refused("ask(" + bird + ", 0)", x -> x.ask(bird, 0), BAD);
        }
    }

    private static void stateWithoutFlight() {
        refused("fly()", ThirtyBirds::fly, STATE);
        refused("swap()", ThirtyBirds::swap, STATE);
        refused("undo()", ThirtyBirds::undo, STATE);
        refused("valley(0, 0)", x -> x.valley(0, 0), BAD);
        refused("arrive()", ThirtyBirds::arrive, STATE);
        // A good number, and then bad ones: STATE is ahead of BAD here.
        for (int number : new int[] {0, -2, 99}) {
            refused("order(" + number + ")", x -> x.order(number), STATE);
            refused("toKeep(" + number + ")", x -> x.toKeep(number), STATE);
            refused("whole(" + number + ", 0)", x -> x.whole(number, 0), STATE);
            refused("whole(0, " + number + ")", x -> x.whole(0, number), STATE);
            refused("meal(" + number + ")", x -> x.meal(number), STATE);
            refused("beloved(" + number + ")", x -> x.beloved(number), STATE);
            refused("asked(" + number + ", 0, 1)", x -> x.asked(number, 0, 1), STATE);
            refused("asked(4, " + number + ", " + number + ")", x -> x.asked(4, number, number), STATE);
            refused("storm(" + number + ", 0, 0)", x -> x.storm(number, 0, 0), STATE);
            refused("storm(0, " + number + ", 0)", x -> x.storm(0, number, 0), STATE);
            refused("storm(0, 0, " + number + ")", x -> x.storm(0, 0, number), STATE);
            refused("drawn(" + number + ", 1, 0)", x -> x.drawn(number, 1, 0), STATE);
            refused("drawn(0, " + number + ", 0)", x -> x.drawn(0, number, 0), STATE);
            refused("drawn(0, 1, " + number + ")", x -> x.drawn(0, 1, number), STATE);
        }
        for (int k = 0; k <= 1; k++) {
            int image = k;
            refused("image(" + k + ")", x -> x.image(image), STATE);
            refused("restore(" + k + ")", x -> x.restore(image), STATE);
        }
        imagesRefused();
    }

    /** BAD is ahead of STATE: without a flight, without an image too. */
    private static void imagesRefused() {
        for (int k : new int[] {-1, 2, LEAST, MOST}) {
            refused("image(" + k + ")", x -> x.image(k), BAD);
            refused("restore(" + k + ")", x -> x.restore(k), BAD);
        }
    }

    private static void actsRefused() {
        for (int on : new int[] {-1, 2, LEAST, MOST}) {
            refused("keep(0, " + on + ")", x -> x.keep(0, on), BAD);
            refused("keep(1, " + on + ")", x -> x.keep(1, on), BAD);
        }
        refused("keep(1, 1), it is so", x -> x.keep(1, 1), STATE);
        refused("keep(0, 0), it is so", x -> x.keep(0, 0), STATE);
        refused("call(0), it flies", x -> x.call(0), STATE);
        refused("call(1), it flies", x -> x.call(1), STATE);
        imagesRefused();
    }

    private static void numbersRefused() {
        for (int number : new int[] {-2, 99, LEAST, MOST}) {
            refused("bird(0, " + number + ")", x -> x.bird(0, number), BAD);
            refused("valley(0, " + number + ")", x -> x.valley(0, number), BAD);
            refused("valley(" + number + ", 0)", x -> x.valley(number, 0), BAD);
            refused("strength(0, " + number + ")", x -> x.strength(0, number), BAD);
            refused("order(" + number + ")", x -> x.order(number), BAD);
            refused("toKeep(" + number + ")", x -> x.toKeep(number), BAD);
            refused("whole(" + number + ", 0)", x -> x.whole(number, 0), BAD);
            refused("whole(0, " + number + ")", x -> x.whole(0, number), BAD);
            refused("meal(" + number + ")", x -> x.meal(number), BAD);
            refused("beloved(" + number + ")", x -> x.beloved(number), BAD);
            refused("storm(" + number + ", 0, 0)", x -> x.storm(number, 0, 0), BAD);
            refused("storm(0, " + number + ", 0)", x -> x.storm(0, number, 0), BAD);
            refused("storm(0, 0, " + number + ")", x -> x.storm(0, 0, number), BAD);
            refused("drawn(" + number + ", 1, 0)", x -> x.drawn(number, 1, 0), BAD);
            refused("drawn(0, 1, " + number + ")", x -> x.drawn(0, 1, number), BAD);
        }
        for (int seed : new int[] {0, -1, 1000000, LEAST, MOST}) {
            refused("drawn(0, " + seed + ", 0)", x -> x.drawn(0, seed, 0), BAD);
        }
        refused("catches(3), it does not fly", x -> x.catches(3), STATE);
        refused("order(2), fewer come", x -> x.order(2), NONE);
        refused("whole(4, 0), no more fly", x -> x.whole(4, 0), NONE);
        refused("whole(4, 1), no more fly", x -> x.whole(4, 1), NONE);
        refused("trace(-1)", x -> x.trace(-1), NONE);
        refused("trace(16)", x -> x.trace(16), NONE);
    }

    private static void rowsAskedRefused() {
        for (int row : new int[] {-1, 8, LEAST, MOST}) {
            refused("fits(0, " + row + ", 0, 1, 0)", x -> x.fits(0, row, 0, 1, 0), BAD);
            refused("asked(" + row + ", 0, 1)", x -> x.asked(row, 0, 1), BAD);
        }
        for (int n : new int[] {0, -1, 3, 5, 6, LEAST, MOST}) {
            refused("fits(0, 0, 0, " + n + ", 0)", x -> x.fits(0, 0, 0, n, 0), BAD);
            refused("fits(0, 4, 9, " + n + ", 0), BAD ahead of findings", x -> x.fits(0, 4, 9, n, 0), BAD);
            refused("asked(0, 0, " + n + ")", x -> x.asked(0, 0, n), BAD);
            refused("asked(4, 9, " + n + "), BAD ahead of findings", x -> x.asked(4, 9, n), BAD);
        }
        for (int what : new int[] {-1, 2, LEAST, MOST}) {
            refused("fits(0, 0, 0, 1, " + what + ")", x -> x.fits(0, 0, 0, 1, what), BAD);
            refused("fits(0, 4, 9, 1, " + what + "), BAD ahead of findings", x -> x.fits(0, 4, 9, 1, what), BAD);
        }
        for (int what = 0; what <= 1; what++) {
            int is = what;
            refused("fits(0, 4, 0, 1, " + is + ")", x -> x.fits(0, 4, 0, 1, is), NULL);
            refused("fits(0, 4, -1, 1, " + is + "), NULL ahead of PLACE", x -> x.fits(0, 4, -1, 1, is), NULL);
            refused("fits(0, 0, -1, 1, " + is + ")", x -> x.fits(0, 0, -1, 1, is), PLACE);
            refused("fits(0, 0, 3, 1, " + is + ")", x -> x.fits(0, 0, 3, 1, is), PLACE);
            refused("fits(0, 0, 2, 2, " + is + ")", x -> x.fits(0, 0, 2, 2, is), PLACE);
            refused("fits(0, 0, MOST, 2, " + is + ")", x -> x.fits(0, 0, MOST, 2, is), PLACE);
        }
        refused("asked(4, 0, 1)", x -> x.asked(4, 0, 1), NULL);
        refused("asked(4, -1, 1), NULL ahead of PLACE", x -> x.asked(4, -1, 1), NULL);
        refused("asked(0, -1, 1)", x -> x.asked(0, -1, 1), PLACE);
        refused("asked(0, 3, 1)", x -> x.asked(0, 3, 1), PLACE);
        refused("asked(0, 2, 2)", x -> x.asked(0, 2, 2), PLACE);
        refused("asked(0, MOST, 2)", x -> x.asked(0, MOST, 2), PLACE);
    }

    private static void kindsRefused() {
        for (int kind : new int[] {-1, 6, LEAST, MOST}) {
            refused("as(0, " + kind + ")", x -> x.as(0, kind), BAD);
        }
        for (int kind = 2; kind <= 5; kind++) {
            int other = kind;
            refused("as(0, " + kind + "), a hawk", x -> x.as(0, other), KIND);
        }
        for (int what : new int[] {-1, 2, LEAST, MOST}) {
            refused("ask(0, " + what + "), THE TRACE stays", x -> x.ask(0, what), BAD);
        }
    }

    private static void foretoldChangesNothing() {
        CHECK.part("FORETOLD (nothing changes)");
        stays("arrive()", ThirtyBirds::arrive);
        for (int bird = 0; bird < 4; bird++) {
            int b = bird;
            stays("where(" + b + ")", x -> x.where(b));
            stays("strength(" + b + ", 5)", x -> x.strength(b, 5));
            stays("catches(" + b + ")", x -> x.catches(b));
            stays("kind(" + b + ")", x -> x.kind(b));
            stays("as(" + b + ", 1)", x -> x.as(b, 1));
            stays("bird(" + b + ", 5)", x -> x.bird(b, 5));
        }
        for (int what = 0; what <= 1; what++) {
            int is = what;
            stays("order(" + is + ")", x -> x.order(is));
            stays("toKeep(" + is + ")", x -> x.toKeep(is));
            stays("whole(3, " + is + ")", x -> x.whole(3, is));
            stays("meal(" + is + ")", x -> x.meal(is));
            stays("beloved(" + is + ")", x -> x.beloved(is));
            stays("fits(0, 0, 0, 2, " + is + ")", x -> x.fits(0, 0, 0, 2, is));
            stays("asked(0, " + is + ", 2)", x -> x.asked(0, is, 2));
            stays("storm(2, 3, " + is + ")", x -> x.storm(2, 3, is));
            stays("drawn(40, 999999, " + is + ")", x -> x.drawn(40, 999999, is));
        }
    }

    private static void oneComesRefused() {
        refused("swap(), fewer than two come", ThirtyBirds::swap, STATE);
        refused("fits(0, 0, 0, 2, 0)", x -> x.fits(0, 0, 0, 2, 0), BAD);
        refused("asked(0, 0, 2)", x -> x.asked(0, 0, 2), BAD);
        refused("order(1), fewer come", x -> x.order(1), NONE);
    }

    private static void noneComesRefused() {
        refused("fly(), none comes", ThirtyBirds::fly, STATE);
        refused("swap(), none comes", ThirtyBirds::swap, STATE);
        refused("fits(0, 0, 0, 1, 0), more than come", x -> x.fits(0, 0, 0, 1, 0), BAD);
        refused("asked(0, 0, 1), none comes", x -> x.asked(0, 0, 1), STATE);
        refused("asked(8, 0, 1), STATE ahead of BAD", x -> x.asked(8, 0, 1), STATE);
        refused("asked(0, 0, 0), STATE ahead of BAD", x -> x.asked(0, 0, 0), STATE);
        refused("asked(4, 0, 1), STATE ahead of NULL", x -> x.asked(4, 0, 1), STATE);
        refused("order(0), fewer come", x -> x.order(0), NONE);
        refused("order(5)", x -> x.order(5), BAD);
    }
}
