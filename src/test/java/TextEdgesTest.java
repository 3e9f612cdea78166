/** The boundaries that the document names of THE TAPE, of texts and of FAULTS (promises 6 to 8), sentence by sentence. */
public final class TextEdgesTest {
    private static final int BAD = ThirtyBirds.BAD, FULL = ThirtyBirds.FULL, STATE = ThirtyBirds.STATE;
    private static final Check CHECK = new Check();

    public static void main(String[] args) {
        tapeHasAtMost120();
        bytesAre0To255();
        tapeIsEmptyThen();
        nothingElseStands();
        figuresTwoAtMost();
        numbersAsTold();
        valleysFiveAtMost();
        birdsSixAtMost();
        theEndIsHowManyBytesThereAre();
        theFirstTokenThatHasOne();
        ofOneTokenTheLeast();
        theLatestFault();
        onAFaultAllStays();
        inPlaceOfTheOneBefore();
        CHECK.end();
    }

    private static void due(String call, int got, int want) {
        CHECK.due(call, got, want);
    }

    private static void fault(String text, int place, int number) {
        ThirtyBirds x = new ThirtyBirds();
        due("flight() of " + text, Check.tell(x, text), -1000100 - place);
        due("fault() of " + text, x.fault(), number);
        due("VALLEYS then", x.count(1), 0);
    }

    private static void reads(String text, int birds) {
        ThirtyBirds x = new ThirtyBirds();
        due("flight() of " + text, Check.tell(x, text), birds);
        due("BIRDS of " + text, x.count(2), birds);
        due("fault() of " + text, x.fault(), 0);
    }

    private static void tapeHasAtMost120() {
        CHECK.part("THE TAPE has at most 120 bytes");
        ThirtyBirds x = new ThirtyBirds();
        for (int n = 1; n <= 120; n++) {
            due("feed(), byte " + n, x.feed('f'), n);
        }
        due("feed(), byte 121", x.feed('f'), FULL);
        due("feed(), byte 121 again", x.feed('f'), FULL);
        due("bytes", x.count(7), 120);
        due("flight() of 120 bytes", x.flight(), -1000101);
        due("bytes then", x.count(7), 0);
        for (int n = 1; n <= 120; n++) {
            due("feed() anew, byte " + n, x.feed('f'), n);
        }
        due("feed() anew, byte 121", x.feed('f'), FULL);
    }

    private static void bytesAre0To255() {
        CHECK.part("a byte (0 to 255)");
        CHECK.span("feed", 0, 255, BAD, letter -> new ThirtyBirds().feed(letter));
        // A byte of 256 more would be an f if its lowest bits were taken.
        due("feed(256 + 'f')", new ThirtyBirds().feed(256 + 'f'), BAD);
        due("feed('f' - 256)", new ThirtyBirds().feed('f' - 256), BAD);
    }

    private static void tapeIsEmptyThen() {
        CHECK.part("The tape, empty then, is read");
        ThirtyBirds x = new ThirtyBirds();
        due("flight() of a text", Check.tell(x, "f1;v0,0;"), 0);
        due("bytes then", x.count(7), 0);
        due("flight() of nothing more", x.flight(), -1000100);
        due("flight() of a fault", Check.tell(x, "f1;v0,0;h1"), -1000110);
        due("bytes then", x.count(7), 0);
        due("flight() of a text that the rest of the fault would spoil", Check.tell(x, "f2;v1,0;h2,0,0;"), 1);
        due("bytes then", x.count(7), 0);
    }

    /** Every byte at every place of a text of every token; figures at signs make other numbers, and have their own test. */
    private static void nothingElseStands() {
        CHECK.part("letters, NUMBERS, SIGNS , and ; nothing else, no blanks");
        String text = "f1;v2,3;h4,5,1;";
        for (int place = 0; place < text.length(); place++) {
            for (int letter = 0; letter < 256; letter++) {
                String changed = text.substring(0, place) + (char) letter + text.substring(place + 1);
                byteStands(text, changed, place, letter);
            }
        }
    }

    private static void byteStands(String text, String changed, int place, int letter) {
        boolean isFigure = letter >= '0' && letter <= '9';
        boolean isNumber = Character.isDigit(text.charAt(place));
        if (letter == text.charAt(place) || place == 8 && "hdonp".indexOf(letter) >= 0) {
            reads(changed, 1);
        } else if (place == 8 && letter == 'v') {
            // A valley may stand there: what cannot is the comma behind its LOSS.
            fault(changed, 12, 1);
        } else if (isNumber && isFigure) {
            numberStands(changed, place, letter - '0');
        } else if (!isFigure || Character.isLetter(text.charAt(place))) {
            fault(changed, place, 1);
        }
    }

    /** All of one figure are as told but LEAVES of more than 6 and LOVES of more than 5. */
    private static void numberStands(String changed, int place, int number) {
        int most = place == 11 ? 6 : place == 13 ? 5 : 9;
        if (number > most) {
            fault(changed, place, 2);
        } else {
            reads(changed, 1);
        }
    }

    private static String with(int which, String number) {
        String[] numbers = {"1", "2", "3", "4", "5", "1"};
        numbers[which] = number;
        return "f" + numbers[0] + ";v" + numbers[1] + "," + numbers[2] + ";o" + numbers[3] + "," + numbers[4] + ","
            + numbers[5] + ";";
    }

    private static final int[] PLACES = {1, 4, 6, 9, 11, 13};

    private static void figuresTwoAtMost() {
        CHECK.part("figures, 2 at most; a run of three figures, at its first");
        for (int which = 0; which < 6; which++) {
            reads(with(which, "1"), 1);
            reads(with(which, "01"), 1);
            reads(with(which, "00"), 1);
            fault(with(which, "001"), PLACES[which], 1);
            fault(with(which, "000"), PLACES[which], 1);
            fault(with(which, "0001"), PLACES[which], 1);
            fault(with(which, "999"), PLACES[which], 1);
            fault(with(which, "4294967297"), PLACES[which], 1);
            fault(with(which, ""), PLACES[which], 1);
            fault(with(which, "-1"), PLACES[which], 1);
            fault(with(which, "1 "), PLACES[which] + 1, 1);
        }
        CHECK.part("a run of three figures, where no NUMBER can stand");
        fault("123", 0, 1);
        fault("f1;123", 3, 1);
        fault("f1;v0,0;123", 8, 1);
        CHECK.part("a run of three figures, at the end");
        fault("f12", 1, 2);
        fault("f123", 1, 1);
    }

    /** Every number of two figures in each of the six places; what is told is what is seen then. */
    private static void numbersAsTold() {
        int[] most = {9, 20, 9, 30, 6, 5};
        String[] names = {"FEED 0 to 9", "ASKS 0 to 20", "LOSS 0 to 9", "STRONG 0 to 30", "LEAVES 0 to 6", "LOVES 0 to 5"};
        for (int which = 0; which < 6; which++) {
            CHECK.part(names[which]);
            for (int number = 0; number < 100; number++) {
                String text = with(which, "" + number);
                if (number > most[which]) {
                    fault(text, PLACES[which], 2);
                } else {
                    due(names[which], seen(Check.told(text), which), number);
                }
            }
        }
    }

    private static int seen(ThirtyBirds x, int which) {
        switch (which) {
            case 0: return x.eat(0) - 4;
            case 1: return x.valley(0, 0);
            case 2: return x.valley(0, 1);
            case 3: return x.bird(0, 0);
            case 4: return x.bird(0, 1);
            default: return x.bird(0, 2);
        }
    }

    private static void valleysFiveAtMost() {
        CHECK.part("VALLEYS 0 .. 4, 5 at most");
        fault("f1;", 3, 1);
        fault("f1;h1,0,0;", 3, 1);
        String text = "f1;";
        for (int valleys = 1; valleys <= 5; valleys++) {
            text += "v" + valleys + "," + valleys + ";";
            ThirtyBirds x = Check.told(text);
            due("VALLEYS", x.count(1), valleys);
            CHECK.span("valley(.., 0)", 0, valleys - 1, BAD, valley -> x.valley(valley, 0));
            due("ASKS of the last", x.valley(valleys - 1, 0), valleys);
            due("place of the last", x.valley(valleys - 1, 2), valleys - 1);
            reads(text + "h1,0,0;", 1);
        }
        CHECK.part("a valley more than there is room for (its letter)");
        fault(text + "v6,6;", 28, 3);
        fault(text + "v", 28, 3);
        fault(text + "vv", 28, 3);
        fault(text + "v99,99;", 28, 3);
        fault(text + "v6,6;v7,7;", 28, 3);
    }

    private static void birdsSixAtMost() {
        CHECK.part("BIRDS 0 .. 5, 6 at most");
        String text = "f1;v0,0;";
        reads(text, 0);
        String sorts = "hdonph";
        for (int birds = 1; birds <= 6; birds++) {
            text += sorts.charAt(birds - 1) + "" + (10 + birds) + ",0,0;";
            reads(text, birds);
            ThirtyBirds x = Check.told(text);
            CHECK.span("bird(.., 0)", 0, birds - 1, BAD, bird -> x.bird(bird, 0));
            due("which fly", x.count(4), (1 << birds) - 1);
            due("STRONG of the last", x.bird(birds - 1, 0), 10 + birds);
        }
        CHECK.part("a bird more than there is room for (its letter)");
        for (char sort : "hdonp".toCharArray()) {
            fault(text + sort, 56, 3);
            fault(text + sort + "1,0,0;", 56, 3);
            fault(text + sort + "99,99,99;", 56, 3);
        }
        fault(text + "x", 56, 1);
        fault(text + "v0,0;", 56, 1);
        fault(text + "f", 56, 1);
        fault(text + ";", 56, 1);
        fault(text + "1", 56, 1);
        CHECK.part("5 valleys and 6 birds, of the longest numbers");
        String longest = "f09;v20,09;v20,09;v20,09;v20,09;v20,09;"
            + "h30,06,05;d30,06,05;o30,06,05;n30,06,05;p30,06,05;h30,06,05;";
        reads(longest, 6);
        fault(longest + "h", longest.length(), 3);
        fault(longest + "v", longest.length(), 1);
    }

    private static void theEndIsHowManyBytesThereAre() {
        CHECK.part("the end: how many bytes there are");
        String text = "f4;v06,3;v9,2;h20,2,1;d18,00,0;";
        int birds = 0;
        for (int length = 0; length <= text.length(); length++) {
            String part = text.substring(0, length);
            birds += part.endsWith(";") && length > 14 ? 1 : 0;
            if (part.endsWith(";") && length > 3) {
                reads(part, birds);
            } else {
                fault(part, length, 1);
            }
        }
        due("birds in the end", birds, 2);
    }

    private static void theFirstTokenThatHasOne() {
        CHECK.part("the first TOKEN that has one");
        fault("f10;v21,10;x", 1, 2);
        fault("f1;v21,10;x", 4, 2);
        fault("f1;v20,10;x", 7, 2);
        fault("f1;v20,10", 7, 2);
        fault("f1;v20,9x", 8, 1);
        fault("f1;v20,9;x999", 9, 1);
        fault("f1;v20,9;h31,7,6;", 10, 2);
        fault("f1;v20,9;h30,7,6;", 13, 2);
        fault("f1;v20,9;h30,6,6;", 15, 2);
        fault("f1;v20,9;h30,6,6", 15, 2);
        fault("f1;v20,9;h30,6,5", 16, 1);
        fault("f1;v0,0;v0,0;v0,0;v0,0;v0,10;v", 26, 2);
        fault("f1;v0,0;v0,0;v0,0;v0,0;v0,9;v", 28, 3);
    }

    private static void ofOneTokenTheLeast() {
        CHECK.part("of one TOKEN the least");
        String five = "f1;v0,0;v0,0;v0,0;v0,0;v0,0;";
        // A sixth valley behind a bird: it cannot stand there (1), and there is no room for it (3).
        fault(five + "h1,0,0;v0,0;", 35, 1);
        // A number of three figures is none (1), and not as told (2).
        fault("f999;", 1, 1);
        fault("f1;v999,0;", 4, 1);
        // A number that is not as told (2) where none can stand (1).
        fault("f1;99", 3, 1);
        fault("f1,99;", 2, 1);
        fault("f1;v1,2;99", 8, 1);
    }

    private static void theLatestFault() {
        CHECK.part("The number of the latest FAULT; 0 before one");
        ThirtyBirds x = new ThirtyBirds();
        due("fault() of a new object", x.fault(), 0);
        Check.tell(x, "f1;v0,0;");
        due("fault() behind a text without", x.fault(), 0);
        Check.tell(x, "f10;");
        due("fault()", x.fault(), 2);
        Check.tell(x, "f1;v0,0;v0,0;v0,0;v0,0;v0,0;v0,0;");
        due("fault()", x.fault(), 3);
        Check.tell(x, "f1;v0,0;");
        due("fault() behind a text without", x.fault(), 3);
        x.flight();
        due("fault()", x.fault(), 1);
    }

    private static final String BEFORE = "f2;v1,1;v2,2;v3,3;h9,1,0;d8,2,1;n1,0,5;p7,0,0;";

    private static ThirtyBirds before() {
        ThirtyBirds x = new ThirtyBirds();
        Check.tell(x, "f11;");
        Check.tell(x, BEFORE);
        x.keep(0, 1);
        x.image(1);
        x.fly();
        x.eat(0);
        x.swap();
        x.row(0, 0, 1);
        x.set(0, 0, 62);
        x.ask(0, 0);
        return x;
    }

    private static void onAFaultAllStays() {
        CHECK.part("-1000100 less the place of a FAULT: all stays");
        String ahead = Probe.all(TextEdgesTest::before);
        for (String text : new String[] {"f10;", "f7;v4,4;v10", "f7;v4,4;h3,3,3;d4,4,4;o5,5,77;",
            "f7;v4,4;h30,0,0;h30,0,0;h30,0,0;h30,0,0;h30,0,0;h30,0,0;h77,0,0;"}) {
            String behind = Probe.all(() -> {
                ThirtyBirds x = before();
                CHECK.holds("a fault of " + text, Check.tell(x, text) <= -1000100);
                x.flight();
                Check.tell(x, "f11;");
                return x;
            });
            CHECK.holds("all stays behind " + text, behind.equals(ahead));
        }
    }

    private static void inPlaceOfTheOneBefore() {
        CHECK.part("A FLIGHT that is read stands in place of the one before");
        for (String text : new String[] {"f3;v4,4;", "f3;v4,4;v5,5;h6,6,5;",
            "f9;v20,9;v20,9;v20,9;v20,9;v20,9;h30,6,5;d30,6,5;o30,6,5;n30,6,5;p30,6,5;h30,6,5;"}) {
            ThirtyBirds x = before();
            CHECK.holds("flight()", Check.tell(x, text) >= 0);
            ThirtyBirds fresh = Check.told(text);
            for (int what = 1; what <= 7; what++) {
                due("count(" + what + ") of " + text, x.count(what), fresh.count(what));
            }
            for (int bird = 0; bird < 6; bird++) {
                for (int what = 0; what < 6; what++) {
                    due("bird(" + bird + ", " + what + ")", x.bird(bird, what), fresh.bird(bird, what));
                }
                due("kind(" + bird + ")", x.kind(bird), fresh.kind(bird));
                due("where(" + bird + ")", x.where(bird), fresh.where(bird));
            }
            due("arrive()", x.arrive(), fresh.arrive());
            due("no ACT can be undone", x.undo(), STATE);
            due("eat(0), by the new law", x.eat(0), fresh.eat(0));
            due("nobody is KEPT: keep(0, 1)", x.keep(0, 1), fresh.keep(0, 1));
        }
    }
}
