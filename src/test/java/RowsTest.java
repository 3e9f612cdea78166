/** Promises 2 to 5 and 37, and what a row holds as promises 26 and 27 see it. */
public final class RowsTest {
    private static final int BAD = ThirtyBirds.BAD;
    private static final int NULL = -1000011, PLACE = -1000012, KIND = -1000013, SIZE = -1000014, STORE = -1000015;
    private static final int LEAST = Integer.MIN_VALUE, MOST = Integer.MAX_VALUE;
    private static final int A = 63, B = 62, C = 60, D = 56, E = 48;
    private static final Check CHECK = new Check();

    public static void main(String[] args) {
        row();
        set();
        copy();
        copyRefused();
        drop();
        status();
        CHECK.end();
    }

    private static void due(String call, int got, int want) {
        CHECK.due(call, got, want);
    }

    private static ThirtyBirds reader() {
        return Check.told(Check.READER);
    }

    private static void row() {
        CHECK.part("row");
        ThirtyBirds x = reader();
        due("row(0, 0, 0)", x.row(0, 0, 0), 0);
        due("row(7, 2, 40)", x.row(7, 2, 40), 40);
        due("row(3, 1, 5)", x.row(3, 1, 5), 5);
        due("count(0)", x.count(0), 3);
        due("row(-1, 0, 1)", x.row(-1, 0, 1), BAD);
        due("row(8, 0, 1)", x.row(8, 0, 1), BAD);
        due("row(0, -1, 1)", x.row(0, -1, 1), BAD);
        due("row(0, 3, 1)", x.row(0, 3, 1), BAD);
        due("row(0, 0, 41)", x.row(0, 0, 41), BAD);
        due("row(0, 0, MOST)", x.row(0, 0, MOST), BAD);
        due("row(0, 0, -1)", x.row(0, 0, -1), SIZE);
        due("row(0, 0, LEAST)", x.row(0, 0, LEAST), SIZE);
        due("row(8, 0, -1), BAD first", x.row(8, 0, -1), BAD);
        due("row(0, 3, -1), BAD first", x.row(0, 3, -1), BAD);
        due("count(0)", x.count(0), 3);
        x.set(3, 0, 63);
        x.set(3, 4, 63);
        due("row(3, 1, -1)", x.row(3, 1, -1), SIZE);
        CHECK.item(x, 3, 4, 63);
        due("row(3, 1, 5) again", x.row(3, 1, 5), 5);
        CHECK.item(x, 3, 0, 0);
        CHECK.item(x, 3, 4, 0);
        due("row(3, 0, 2), another lane", x.row(3, 0, 2), 2);
        due("set(3, 1, 128)", x.set(3, 1, 128), -128);
        due("set(3, 2, 1)", x.set(3, 2, 1), PLACE);
        x.row(3, 2, 40);
        CHECK.item(x, 3, 1, 0);
        CHECK.item(x, 3, 39, 0);
        due("count(0)", x.count(0), 3);
    }

    private static void set() {
        CHECK.part("set");
        ThirtyBirds x = reader();
        x.row(0, 0, 3);
        x.row(1, 1, 3);
        x.row(2, 2, 3);
        due("byte 127", x.set(0, 0, 127), 127);
        due("byte 128", x.set(0, 0, 128), -128);
        due("byte 200", x.set(0, 0, 200), -56);
        due("byte 256", x.set(0, 0, 256), 0);
        due("byte -129", x.set(0, 0, -129), 127);
        due("short 32767", x.set(1, 0, 32767), 32767);
        due("short 40000", x.set(1, 0, 40000), -25536);
        due("short 70000", x.set(1, 0, 70000), 4464);
        due("short -32769", x.set(1, 0, -32769), 32767);
        due("int MOST", x.set(2, 0, MOST), MOST);
        due("int LEAST", x.set(2, 0, LEAST), LEAST);
        due("byte 256 + 60", x.set(0, 2, 316), 60);
        CHECK.item(x, 0, 2, 60);
        CHECK.item(x, 0, 1, 0);
        due("set(-1, 0, 0)", x.set(-1, 0, 0), BAD);
        due("set(8, 0, 0)", x.set(8, 0, 0), BAD);
        due("set(3, 0, 0)", x.set(3, 0, 0), NULL);
        due("set(3, -1, 0), NULL first", x.set(3, -1, 0), NULL);
        due("set(0, -1, 0)", x.set(0, -1, 0), PLACE);
        due("set(0, 3, 0)", x.set(0, 3, 0), PLACE);
        due("set(0, MOST, 0)", x.set(0, MOST, 0), PLACE);
        due("set(0, LEAST, 0)", x.set(0, LEAST, 0), PLACE);
        x.row(4, 2, 0);
        due("set(4, 0, 0) of no items", x.set(4, 0, 0), PLACE);
    }

    private static void copy() {
        CHECK.part("copy");
        ThirtyBirds x = reader();
        x.row(0, 0, 5);
        x.row(1, 0, 4);
        x.set(0, 0, A);
        x.set(0, 1, B);
        x.set(0, 2, C);
        x.set(0, 3, D);
        x.set(0, 4, E);
        due("copy(0, 1, 1, 2, 2)", x.copy(0, 1, 1, 2, 2), 2);
        CHECK.items(x, 1, 0, 0, B, C);
        CHECK.items(x, 0, A, B, C, D, E);
        due("copy onward over itself", x.copy(0, 0, 0, 1, 4), 4);
        CHECK.items(x, 0, A, A, B, C, D);
        due("copy backward over itself", x.copy(0, 2, 0, 0, 3), 3);
        CHECK.items(x, 0, B, C, D, C, D);
        due("copy of all", x.copy(1, 0, 0, 1, 4), 4);
        CHECK.items(x, 0, B, 0, 0, B, C);
        due("copy of none", x.copy(0, 2, 1, 2, 0), 0);
        due("copy of none at the ends", x.copy(0, 5, 1, 4, 0), 0);
        CHECK.items(x, 1, 0, 0, B, C);
        x.row(2, 1, 0);
        due("copy of none in a row of none", x.copy(2, 0, 2, 0, 0), 0);
    }

    private static void copyRefused() {
        CHECK.part("copy refused");
        ThirtyBirds x = reader();
        x.row(0, 0, 4);
        x.row(1, 1, 4);
        x.row(2, 0, 2);
        x.set(0, 0, A);
        due("a is -1", x.copy(-1, 0, 0, 0, 1), BAD);
        due("a is 8", x.copy(8, 0, 0, 0, 1), BAD);
        due("b is -1", x.copy(0, 0, -1, 0, 1), BAD);
        due("b is 8", x.copy(0, 0, 8, 0, 1), BAD);
        due("BAD ahead of NULL", x.copy(5, 0, 8, 0, 1), BAD);
        due("a is missing", x.copy(5, 0, 0, 0, 1), NULL);
        due("b is missing", x.copy(0, 0, 5, 0, 1), NULL);
        due("NULL ahead of PLACE", x.copy(0, -1, 5, 0, 1), NULL);
        due("STORE", x.copy(0, 0, 1, 0, 1), STORE);
        due("STORE of none", x.copy(0, 0, 1, 0, 0), STORE);
        due("STORE ahead of PLACE", x.copy(0, 0, 1, 0, -1), STORE);
        due("i is -1", x.copy(0, -1, 2, 0, 1), PLACE);
        due("j is -1", x.copy(0, 0, 2, -1, 1), PLACE);
        due("n is -1", x.copy(0, 0, 2, 0, -1), PLACE);
        due("n is LEAST", x.copy(0, 0, 2, 0, LEAST), PLACE);
        due("beyond a's end", x.copy(0, 3, 2, 0, 2), PLACE);
        due("beyond b's end", x.copy(0, 0, 2, 1, 2), PLACE);
        due("none beyond a's end", x.copy(0, 5, 2, 0, 0), PLACE);
        due("none beyond b's end", x.copy(0, 0, 2, 3, 0), PLACE);
        due("i and n wrap around", x.copy(0, MOST, 2, 0, MOST), PLACE);
        due("j and n wrap around", x.copy(0, 0, 2, MOST, 2), PLACE);
        CHECK.items(x, 2, 0, 0);
        CHECK.items(x, 0, A, 0, 0, 0);
    }

    private static void drop() {
        CHECK.part("drop");
        ThirtyBirds x = new ThirtyBirds();
        x.row(0, 0, 4);
        x.row(7, 2, 0);
        due("count(0)", x.count(0), 2);
        due("drop(0)", x.drop(0), 4);
        due("count(0)", x.count(0), 1);
        due("drop(0) again", x.drop(0), NULL);
        due("set(0, 0, 0)", x.set(0, 0, 0), NULL);
        due("drop(7)", x.drop(7), 0);
        due("drop(1)", x.drop(1), NULL);
        due("drop(-1)", x.drop(-1), BAD);
        due("drop(8)", x.drop(8), BAD);
        due("count(0)", x.count(0), 0);
        due("row(0, 0, 4) anew", x.row(0, 0, 4), 4);
        due("count(0)", x.count(0), 1);
    }

    private static void status() {
        CHECK.part("status");
        ThirtyBirds x = new ThirtyBirds();
        due("of a new object", x.status(), 0);
        x.row(0, 0, -1);
        due("SIZE", x.status(), 4);
        x.row(8, 0, 0);
        due("BAD leaves it", x.status(), 4);
        x.asked(0, 0, 1);
        due("STATE leaves it", x.status(), 4);
        x.feed(300);
        x.flight();
        x.count(0);
        due("calls without a row leave it", x.status(), 4);
        x.row(0, 0, 3);
        due("row()", x.status(), 0);
        x.set(1, 0, 0);
        due("NULL", x.status(), 1);
        x.set(0, 0, 0);
        due("set()", x.status(), 0);
        x.copy(0, 0, 0, 0, 4);
        due("PLACE", x.status(), 2);
        x.copy(0, 0, 0, 0, 3);
        due("copy()", x.status(), 0);
        x.row(1, 1, 3);
        x.copy(0, 0, 1, 0, 3);
        due("STORE", x.status(), 5);
        x.drop(1);
        due("drop()", x.status(), 0);
        x.drop(1);
        due("NULL of drop()", x.status(), 1);
        Check.tell(x, "f1;v0,0;h1,0,0;");
        x.fits(0, 0, 0, 1, 0);
        due("fits()", x.status(), 0);
        x.fits(0, 0, 3, 1, 0);
        due("PLACE of fits()", x.status(), 2);
        x.asked(0, 0, 1);
        due("asked()", x.status(), 0);
        x.asked(1, 0, 1);
        due("NULL of asked()", x.status(), 1);
        due("as(0, 1)", x.as(0, 1), 0);
        due("as()", x.status(), 0);
        due("as(0, 2)", x.as(0, 2), KIND);
        due("KIND", x.status(), 3);
        x.as(1, 0);
        x.fly();
        x.arrive();
        due("BAD as(), and other calls, leave it", x.status(), 3);
    }
}
