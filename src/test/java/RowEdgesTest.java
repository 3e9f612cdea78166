/** The boundaries that the document names of ROWS (promises 2 to 5, 37), sentence by sentence. */
public final class RowEdgesTest {
    private static final int BAD = ThirtyBirds.BAD;
    private static final int NULL = -1000011, PLACE = -1000012, KIND = -1000013, SIZE = -1000014, STORE = -1000015;
    private static final int LEAST = Integer.MIN_VALUE, MOST = Integer.MAX_VALUE;
    private static final int A = 63, B = 62, C = 60, D = 56, E = 48;
    private static final Check CHECK = new Check();

    public static void main(String[] args) {
        rowsAreMissingAtFirst();
        rows0To7();
        lanes0To2();
        items0To40();
        itemsAre0AtFirst();
        lowestBits();
        places();
        copyBelow0OrBeyondAnEnd();
        copyAsTheyWereAhead();
        dropHowManyItHad();
        findingsByNumber();
        statusIsOfTheLatest();
        CHECK.end();
    }

    private static void due(String call, int got, int want) {
        CHECK.due(call, got, want);
    }

    private static ThirtyBirds withAllRows() {
        ThirtyBirds x = Check.told(Check.READER);
        for (int row = 0; row < 8; row++) {
            x.row(row, 2, 1);
        }
        return x;
    }

    private static void rowsAreMissingAtFirst() {
        CHECK.part("ROWS 0 .. 7 are missing (at first)");
        ThirtyBirds x = Check.told(Check.READER);
        for (int row = 0; row < 8; row++) {
            due("set(" + row + ", 0, 0)", x.set(row, 0, 0), NULL);
            due("copy(" + row + ", ..)", x.copy(row, 0, row, 0, 0), NULL);
            due("drop(" + row + ")", x.drop(row), NULL);
            due("fits(0, " + row + ", ..)", x.fits(0, row, 0, 1, 0), NULL);
            due("asked(" + row + ", ..)", x.asked(row, 0, 1), NULL);
        }
        due("ROWS", x.count(0), 0);
        for (int row = 0; row < 8; row++) {
            due("row(" + row + ", 0, 0)", x.row(row, 0, 0), 0);
            due("ROWS", x.count(0), row + 1);
        }
        due("row(7, 0, 3) in place of one that is there", x.row(7, 0, 3), 3);
        due("ROWS", x.count(0), 8);
    }

    private static void rows0To7() {
        CHECK.part("ROWS 0 .. 7");
        CHECK.span("row(.., 0, 1)", 0, 7, BAD, row -> new ThirtyBirds().row(row, 0, 1));
        CHECK.span("set(.., 0, 1)", 0, 7, BAD, row -> withAllRows().set(row, 0, 1));
        CHECK.span("copy(.., 0, 0, 0, 1)", 0, 7, BAD, row -> withAllRows().copy(row, 0, 0, 0, 1));
        CHECK.span("copy(0, 0, .., 0, 1)", 0, 7, BAD, row -> withAllRows().copy(0, 0, row, 0, 1));
        CHECK.span("drop(..)", 0, 7, BAD, row -> withAllRows().drop(row));
        CHECK.span("fits(0, .., 0, 1, 0)", 0, 7, BAD, row -> withAllRows().fits(0, row, 0, 1, 0));
        CHECK.span("asked(.., 0, 1)", 0, 7, BAD, row -> withAllRows().asked(row, 0, 1));
        ThirtyBirds x = withAllRows();
        int[] items = {A, B, C, D, E, 32, 0, A};
        for (int row = 0; row < 8; row++) {
            x.set(row, 0, items[row]);
        }
        for (int row = 0; row < 8; row++) {
            CHECK.item(x, row, 0, items[row]);
        }
    }

    private static void lanes0To2() {
        CHECK.part("a LANE (0 bytes, 1 shorts, 2 ints)");
        CHECK.span("row(0, .., 1)", 0, 2, BAD, lane -> new ThirtyBirds().row(0, lane, 1));
        for (int from = 0; from <= 2; from++) {
            for (int to = 0; to <= 2; to++) {
                ThirtyBirds x = new ThirtyBirds();
                x.row(0, from, 2);
                x.row(1, to, 2);
                due("copy() of lane " + from + " to " + to, x.copy(0, 0, 1, 0, 2), from == to ? 2 : STORE);
            }
        }
    }

    private static void items0To40() {
        CHECK.part("0 to 40 ITEMS; SIZE (fewer than none)");
        for (int lane = 0; lane <= 2; lane++) {
            for (int n = 0; n <= 40; n++) {
                ThirtyBirds x = new ThirtyBirds();
                due("row(0, " + lane + ", " + n + ")", x.row(0, lane, n), n);
                due("drop(0)", x.drop(0), n);
            }
            due("row(0, " + lane + ", 41)", new ThirtyBirds().row(0, lane, 41), BAD);
            due("row(0, " + lane + ", MOST)", new ThirtyBirds().row(0, lane, MOST), BAD);
            due("row(0, " + lane + ", -1)", new ThirtyBirds().row(0, lane, -1), SIZE);
            due("row(0, " + lane + ", LEAST)", new ThirtyBirds().row(0, lane, LEAST), SIZE);
        }
    }

    private static void itemsAre0AtFirst() {
        CHECK.part("ITEMS, 0 at first");
        for (int lane = 0; lane <= 2; lane++) {
            ThirtyBirds x = Check.told(Check.READER);
            x.row(5, lane, 40);
            for (int i = 0; i < 40; i++) {
                CHECK.item(x, 5, i, 0);
                x.set(5, i, A);
            }
            x.row(5, lane, 1);
            CHECK.item(x, 5, 0, 0);
            x.drop(5);
            x.row(5, lane, 40);
            for (int i = 0; i < 40; i++) {
                CHECK.item(x, 5, i, 0);
            }
        }
    }

    private static void lowestBits() {
        CHECK.part("its lowest bits, as many as the LANE has");
        int[] values = {0, 1, -1, 127, 128, 129, 255, 256, 257, -127, -128, -129, -256, 32767, 32768, 32769, 65535,
            65536, 65537, -32767, -32768, -32769, -65536, MOST, MOST - 1, LEAST, LEAST + 1};
        ThirtyBirds x = Check.told(Check.READER);
        for (int lane = 0; lane <= 2; lane++) {
            x.row(lane, lane, 2);
        }
        for (int v : values) {
            due("set(0, 0, " + v + ")", x.set(0, 0, v), (byte) v);
            due("set(1, 0, " + v + ")", x.set(1, 0, v), (short) v);
            due("set(2, 0, " + v + ")", x.set(2, 0, v), v);
        }
        CHECK.part("its lowest bits stay in the ROW");
        due("set(0, 1, 256 + 60)", x.set(0, 1, 256 + C), C);
        due("set(1, 1, 65536 + 60)", x.set(1, 1, 65536 + C), C);
        due("set(2, 1, 65536 + 60)", x.set(2, 1, 65536 + C), 65536 + C);
        CHECK.item(x, 0, 1, C);
        CHECK.item(x, 1, 1, C);
        due("65596 is no set of birds", x.asked(2, 1, 1), 0);
        due("set(0, 1, 128 + 60)", x.set(0, 1, 128 + C), C - 128);
        due("-68 is no set of birds", x.asked(0, 1, 1), 0);
        due("set(1, 1, 256 + 60)", x.set(1, 1, 256 + C), 256 + C);
        due("316 is no set of birds", x.asked(1, 1, 1), 0);
    }

    private static void places() {
        CHECK.part("PLACE (no such place of a ROW)");
        for (int n : new int[] {1, 2, 39, 40}) {
            ThirtyBirds x = Check.told(Check.READER);
            x.row(0, 2, n);
            CHECK.span("set() of " + n + " items", 0, n - 1, PLACE, i -> x.set(0, i, E));
            CHECK.span("fits() of " + n + " items", 0, n - 1, PLACE, i -> x.fits(0, 0, i, 1, 1));
            CHECK.span("asked() of " + n + " items", 0, n - 1, PLACE, i -> x.asked(0, i, 1));
            CHECK.item(x, 0, n - 1, E);
        }
        ThirtyBirds none = Check.told(Check.READER);
        none.row(0, 2, 0);
        due("set(0, 0, 0) of no items", none.set(0, 0, 0), PLACE);
        due("set(0, -1, 0) of no items", none.set(0, -1, 0), PLACE);
        due("fits() of no items", none.fits(0, 0, 0, 1, 0), PLACE);
        due("asked() of no items", none.asked(0, 0, 1), PLACE);
        CHECK.part("PLACE behind a ROW that was longer");
        none.row(0, 2, 5);
        none.row(0, 2, 3);
        due("set(0, 3, 0)", none.set(0, 3, 0), PLACE);
        due("set(0, 2, 9)", none.set(0, 2, 9), 9);
    }

    /** Every i, j and n about the ends of rows of 3 and of 5 items. */
    private static void copyBelow0OrBeyondAnEnd() {
        CHECK.part("PLACE (i, j, n below 0, or beyond an end)");
        ThirtyBirds x = new ThirtyBirds();
        x.row(0, 1, 3);
        x.row(1, 1, 5);
        for (int i = -1; i <= 6; i++) {
            for (int j = -1; j <= 6; j++) {
                for (int n = -1; n <= 6; n++) {
                    ThirtyBirds y = new ThirtyBirds();
                    y.row(0, 1, 3);
                    y.row(1, 1, 5);
                    boolean isWithin = i >= 0 && j >= 0 && n >= 0 && i + n <= 3 && j + n <= 5;
                    due("copy(0, " + i + ", 1, " + j + ", " + n + ")", y.copy(0, i, 1, j, n), isWithin ? n : PLACE);
                    isWithin = i >= 0 && j >= 0 && n >= 0 && i + n <= 5 && j + n <= 3;
                    due("copy(1, " + i + ", 0, " + j + ", " + n + ")", y.copy(1, i, 0, j, n), isWithin ? n : PLACE);
                }
            }
        }
        for (int far : new int[] {LEAST, LEAST + 1, MOST - 1, MOST}) {
            due("copy(0, " + far + ", 1, 0, 1)", x.copy(0, far, 1, 0, 1), PLACE);
            due("copy(0, 0, 1, " + far + ", 1)", x.copy(0, 0, 1, far, 1), PLACE);
            due("copy(0, 0, 1, 0, " + far + ")", x.copy(0, 0, 1, 0, far), PLACE);
            due("copy(0, 2, 1, 2, " + far + ")", x.copy(0, 2, 1, 2, far), PLACE);
            due("copy(0, " + far + ", 1, " + far + ", " + far + ")", x.copy(0, far, 1, far, far), PLACE);
        }
        x.row(2, 2, 40);
        x.row(3, 2, 40);
        due("copy() of 40", x.copy(2, 0, 3, 0, 40), 40);
        due("copy() of 41", x.copy(2, 0, 3, 0, 41), PLACE);
    }

    private static void copyAsTheyWereAhead() {
        CHECK.part("as they were ahead");
        int[] items = {A, B, C, D, E};
        for (int lane = 0; lane <= 2; lane++) {
            for (int i = 0; i < 5; i++) {
                for (int j = 0; j < 5; j++) {
                    copyWithin(lane, i, j, items);
                }
            }
        }
    }

    private static void copyWithin(int lane, int i, int j, int[] items) {
        ThirtyBirds x = Check.told(Check.READER);
        x.row(6, lane, 5);
        for (int k = 0; k < 5; k++) {
            x.set(6, k, items[k]);
        }
        int n = 5 - Math.max(i, j);
        int[] want = items.clone();
        for (int k = 0; k < n; k++) {
            want[j + k] = items[i + k];
        }
        due("copy(6, " + i + ", 6, " + j + ", " + n + ")", x.copy(6, i, 6, j, n), n);
        CHECK.items(x, 6, want);
    }

    private static void dropHowManyItHad() {
        CHECK.part("A ROW is missing from now on: how many ITEMS it had");
        ThirtyBirds x = withAllRows();
        x.row(0, 0, 40);
        x.row(7, 0, 0);
        due("drop(0)", x.drop(0), 40);
        due("ROWS", x.count(0), 7);
        due("drop(0) again", x.drop(0), NULL);
        due("set(0, 0, 1)", x.set(0, 0, 1), NULL);
        due("drop(7) of no items", x.drop(7), 0);
        due("drop(7) again", x.drop(7), NULL);
        due("ROWS", x.count(0), 6);
        due("drop(1)", x.drop(1), 1);
        due("row(1, 0, 0)", x.row(1, 0, 0), 0);
        due("drop(1), the new one", x.drop(1), 0);
    }

    private static void findingsByNumber() {
        CHECK.part("-1000010 less 1 NULL, 2 PLACE, 3 KIND, 4 SIZE, 5 STORE");
        ThirtyBirds x = Check.told(Check.READER);
        x.row(0, 0, 1);
        x.row(1, 1, 1);
        due("NULL", x.drop(2), -1000010 - 1);
        due("status()", x.status(), 1);
        due("PLACE", x.set(0, 1, 0), -1000010 - 2);
        due("status()", x.status(), 2);
        due("KIND", x.as(0, 5), -1000010 - 3);
        due("status()", x.status(), 3);
        due("SIZE", x.row(0, 0, -1), -1000010 - 4);
        due("status()", x.status(), 4);
        due("STORE", x.copy(0, 0, 1, 0, 1), -1000010 - 5);
        due("status()", x.status(), 5);
    }

    /** Each call with a row, and as(), once found and once well; calls without leave what there is. */
    private static void statusIsOfTheLatest() {
        CHECK.part("status(): 0: it had none, or there was none");
        due("status() of a new object", new ThirtyBirds().status(), 0);
        due("status() of a flight", Check.told(Check.READER).status(), 0);
        ThirtyBirds x = Check.told("f1;v0,0;v0,0;h9,0,0;");
        x.row(0, 0, 1);
        for (int well = 0; well < 7; well++) {
            due("KIND", x.as(0, 2), KIND);
            due("status()", x.status(), 3);
            CHECK.holds("well, " + well, wellDone(x, well) >= 0);
            due("status() behind it, " + well, x.status(), 0);
        }
        CHECK.part("status(): of the latest call with a ROW, or as()");
        x.row(0, 0, 1);
        due("STORE", x.copy(0, 0, storeRow(x), 0, 1), STORE);
        x.arrive();
        x.bird(0, 0);
        x.valley(0, 0);
        x.kind(0);
        x.ask(0, 0);
        x.trace(0);
        x.count(0);
        x.feed('f');
        x.flight();
        x.fault();
        x.eat(0);
        x.keep(0, 1);
        x.swap();
        x.fly();
        x.undo();
        x.image(0);
        x.restore(0);
        x.order(-1);
        x.toKeep(0);
        x.whole(0, 0);
        x.meal(0);
        x.catches(0);
        x.beloved(0);
        x.storm(0, 0, 0);
        x.drawn(0, 1, 0);
        x.where(0);
        x.strength(0, 0);
        due("status() behind calls without a ROW", x.status(), 5);
    }

    private static int storeRow(ThirtyBirds x) {
        x.row(1, 1, 1);
        return 1;
    }

    private static int wellDone(ThirtyBirds x, int which) {
        switch (which) {
            case 0: return x.row(0, 0, 1);
            case 1: return x.set(0, 0, 1);
            case 2: return x.copy(0, 0, 0, 0, 1);
            case 3: return x.fits(0, 0, 0, 1, 0);
            case 4: return x.asked(0, 0, 1);
            case 5: return x.as(0, 0);
            default: return x.drop(0);
        }
    }
}
