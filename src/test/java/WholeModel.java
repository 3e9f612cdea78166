import java.util.ArrayList;
import java.util.List;
import java.util.Map;
import java.util.regex.Matcher;
import java.util.regex.Pattern;

/** A second reckoning of the whole face, on the Model: twins for acts and images, a text for the tape. */
final class WholeModel {
    private static final int NONE = -1000000, BAD = -1000001, STATE = -1000002, FULL = -1000003;
    private static final int NULL = 1, PLACE = 2, KIND = 3, SIZE = 4, STORE = 5;
    private static final Pattern TOKEN = Pattern.compile("[0-9]+|.", Pattern.DOTALL);
    /** What a part of a text must be, token by token: # is a number. */
    private static final Map<Character, String> PARTS = Map.of('f', "f#;", 'v', "v#,#;", 'h', "h#,#,#;", 'd', "d#,#,#;",
        'o', "o#,#,#;", 'n', "n#,#,#;", 'p', "p#,#,#;");
    private static final Map<Character, List<Integer>> MOST = Map.of('f', List.of(9), 'v', List.of(20, 9));
    private static final List<Integer> MOST_OF_BIRDS = List.of(30, 6, 5);
    /** For each kind, 0 to 5, the kinds that it is. */
    private static final String[] KINDS = {"0", "10", "210", "310", "40", "540"};

    private final int[][] rows = new int[8][];
    private final int[] lanes = new int[8];
    private String tape = "";
    Model flight = null;
    private int fault = 0;
    private int status = 0;
    private final List<Model> acts = new ArrayList<>();
    private final Model[] images = new Model[2];
    private final List<Integer> trace = new ArrayList<>();

    int answer(String name, int[] a) {
        return switch (name) {
            case "row", "set", "copy", "drop", "fits", "asked", "as" -> withStatus(name, a);
            case "feed", "flight", "fault", "status", "trace", "count" -> ofTheObject(name, a);
            case "image", "restore" -> ofImages(name, a[0]);
            case "fly", "swap", "undo", "arrive" -> ofTheFlight(name);
            case "order", "toKeep", "whole", "meal", "beloved", "storm", "drawn" -> foretold(name, a);
            case "valley" -> valley(a[0], a[1]);
            default -> isBird(a[0]) ? ofABird(name, a[0], a.length > 1 ? a[1] : 0) : BAD;
        };
    }

    private static boolean isWithin(int number, int least, int most) {
        return least <= number && number <= most;
    }

    private boolean isBird(int bird) {
        return flight != null && isWithin(bird, 0, flight.birds.size() - 1);
    }

    private int coming() {
        return flight == null ? 0 : flight.coming.size();
    }

    private int withStatus(String name, int[] a) {
        return switch (name) {
            case "row" -> row(a[0], a[1], a[2]);
            case "set" -> isWithin(a[0], 0, 7) ? set(a[0], a[1], a[2]) : BAD;
            case "copy" -> isWithin(a[0], 0, 7) && isWithin(a[2], 0, 7) ? copy(a) : BAD;
            case "drop" -> isWithin(a[0], 0, 7) ? drop(a[0]) : BAD;
            case "as" -> isBird(a[0]) && isWithin(a[1], 0, 5) ? as(a[0], a[1]) : BAD;
            case "fits" -> isBird(a[0]) && isWithin(a[4], 0, 1) ? fits(a) : BAD;
            default -> coming() == 0 ? STATE : asked(a);
        };
    }

    private int found(int number) {
        status = number;
        return -1000010 - number;
    }

    private int well(int answer) {
        status = 0;
        return answer;
    }

    private int row(int row, int lane, int n) {
        if (!isWithin(row, 0, 7) || !isWithin(lane, 0, 2) || n > 40) {
            return BAD;
        }
        if (n < 0) {
            return found(SIZE);
        }
        rows[row] = new int[n];
        lanes[row] = lane;
        return well(n);
    }

    private int set(int row, int i, int v) {
        if (rows[row] == null) {
            return found(NULL);
        }
        if (!isWithin(i, 0, rows[row].length - 1)) {
            return found(PLACE);
        }
        int unused = new int[] {24, 16, 0}[lanes[row]];
        rows[row][i] = v << unused >> unused;
        return well(rows[row][i]);
    }

    private static boolean areThere(int[] row, long i, long n) {
        return i >= 0 && n >= 0 && i + n <= row.length;
    }

    private int copy(int[] a) {
        int[] from = rows[a[0]];
        int[] to = rows[a[2]];
        if (from == null || to == null) {
            return found(NULL);
        }
        if (lanes[a[0]] != lanes[a[2]]) {
            return found(STORE);
        }
        if (!areThere(from, a[1], a[4]) || !areThere(to, a[3], a[4])) {
            return found(PLACE);
        }
        int[] were = from.clone();
        for (int k = 0; k < a[4]; k++) {
            to[a[3] + k] = were[a[1] + k];
        }
        return well(a[4]);
    }

    private int drop(int row) {
        if (rows[row] == null) {
            return found(NULL);
        }
        int n = rows[row].length;
        rows[row] = null;
        return well(n);
    }

    private int kind(int bird) {
        return Model.SORTS.indexOf(flight.birds.get(bird).sort) + 1;
    }

    private int as(int bird, int kind) {
        return KINDS[kind(bird)].contains("" + kind) ? well(bird) : found(KIND);
    }

    private int[] told(int row, int i, int n) {
        int[] told = new int[n];
        for (int k = 0; k < n; k++) {
            told[k] = rows[row][i + k];
        }
        return told;
    }

    private int seen(int row, int i, int n) {
        if (!isWithin(row, 0, 7) || !isWithin(n, 1, coming())) {
            return BAD;
        }
        if (rows[row] == null) {
            return found(NULL);
        }
        return areThere(rows[row], i, n) ? well(0) : found(PLACE);
    }

    private int fits(int[] a) {
        int refusal = seen(a[1], a[2], a[3]);
        if (refusal < 0) {
            return refusal;
        }
        int[] told = told(a[1], a[2], a[3]);
        return a[4] == 0 ? flight.sorts(a[0], told) : flight.leaving(a[0], told);
    }

    private int asked(int[] a) {
        int refusal = seen(a[0], a[1], a[2]);
        return refusal < 0 ? refusal : flight.asked(told(a[0], a[1], a[2]));
    }

    private int ofTheObject(String name, int[] a) {
        switch (name) {
            case "feed":
                if (!isWithin(a[0], 0, 255)) {
                    return BAD;
                }
                if (tape.length() == 120) {
                    return FULL;
                }
                tape += (char) a[0];
                return tape.length();
            case "flight": return flight();
            case "fault": return fault;
            case "status": return status;
            case "trace": return isWithin(a[0], 0, trace.size() - 1) ? trace.get(a[0]) : NONE;
            default: return isWithin(a[0], 0, 7) ? counts()[a[0]] : BAD;
        }
    }

    private int[] counts() {
        int there = 0;
        for (int[] row : rows) {
            there += row == null ? 0 : 1;
        }
        Model m = flight == null ? new Model() : flight;
        return new int[] {there, m.coming.size() + m.behind.size(), m.birds.size(), m.through, m.flying(), m.turned,
            acts.size(), tape.length()};
    }

    private int flight() {
        String text = tape;
        tape = "";
        Model read = new Model();
        Matcher tokens = TOKEN.matcher(text);
        List<Integer> numbers = new ArrayList<>();
        String part = PARTS.get('f');
        int step = 0;
        while (true) {
            String token = tokens.find() ? tokens.group() : "";
            int place = token.isEmpty() ? text.length() : tokens.start();
            if (step == part.length()) {
                add(read, part.charAt(0), numbers);
                numbers.clear();
                if (token.isEmpty() && !read.coming.isEmpty()) {
                    flight = read;
                    acts.clear();
                    return read.birds.size();
                }
                step = 0;
                part = partOf(token, read);
            }
            int found = faultOf(token, part, step, numbers, read);
            if (found > 0) {
                fault = found;
                return -1000100 - place;
            }
            step++;
        }
    }

    /** The part that a token begins; one that cannot begin any goes with a part that it is no token of. */
    private static String partOf(String token, Model read) {
        boolean mayBeBird = !read.coming.isEmpty();
        boolean mayBeValley = read.birds.isEmpty();
        char letter = token.isEmpty() ? ' ' : token.charAt(0);
        boolean may = letter == 'v' ? mayBeValley : letter != 'f' && mayBeBird;
        return may && PARTS.containsKey(letter) ? PARTS.get(letter) : "!";
    }

    private static int faultOf(String token, String part, int step, List<Integer> numbers, Model read) {
        char due = part.charAt(step);
        if (due == '#') {
            if (!token.matches("[0-9]{1,2}")) {
                return 1;
            }
            int most = MOST.getOrDefault(part.charAt(0), MOST_OF_BIRDS).get(numbers.size());
            numbers.add(Integer.parseInt(token));
            return numbers.get(numbers.size() - 1) > most ? 2 : 0;
        }
        if (!token.equals("" + due) || due == '!') {
            return 1;
        }
        boolean isMore = due == 'v' ? read.coming.size() == 5 : step == 0 && read.birds.size() == 6;
        return isMore ? 3 : 0;
    }

    private static void add(Model read, char letter, List<Integer> numbers) {
        if (letter == 'f') {
            read.feed = numbers.get(0);
        } else if (letter == 'v') {
            read.coming.add(new Model.Valley(read.coming.size(), numbers.get(0), numbers.get(1)));
        } else {
            read.birds.add(new Model.Bird(letter, numbers.get(0), numbers.get(1), numbers.get(2)));
        }
    }

    private int ofImages(String name, int k) {
        if (!isWithin(k, 0, 1)) {
            return BAD;
        }
        boolean isKept = name.equals("image");
        Model from = isKept ? flight : images[k];
        if (from == null) {
            return STATE;
        }
        if (isKept) {
            images[k] = from.twin();
        } else {
            flight = from.twin();
            acts.clear();
        }
        return 1;
    }

    private void act() {
        acts.add(flight.twin());
        if (acts.size() > 24) {
            acts.remove(0);
        }
    }

    private int ofTheFlight(String name) {
        boolean may = switch (name) {
            case "fly" -> coming() > 0;
            case "swap" -> coming() > 1;
            case "undo" -> !acts.isEmpty();
            default -> flight != null;
        };
        if (!may) {
            return STATE;
        }
        switch (name) {
            case "fly":
                act();
                return flight.flyOne().flying();
            case "swap":
                act();
                flight.coming.add(1, flight.coming.remove(0));
                return flight.coming.get(0).number();
            case "undo":
                flight = acts.remove(acts.size() - 1);
                return acts.size();
            default:
                return flight.arrive();
        }
    }

    private int foretold(String name, int[] a) {
        if (flight == null) {
            return STATE;
        }
        boolean asTold = switch (name) {
            case "order" -> isWithin(a[0], -1, 4);
            case "whole" -> isWithin(a[0], 0, 6) && isWithin(a[1], 0, 1);
            case "storm" -> isWithin(a[0], 0, 6) && isWithin(a[1], 0, 10) && isWithin(a[2], 0, 1);
            case "drawn" -> isWithin(a[0], 0, 40) && isWithin(a[1], 1, 999999) && isWithin(a[2], 0, 1);
            default -> isWithin(a[0], 0, 1);
        };
        if (!asTold) {
            return BAD;
        }
        return switch (name) {
            case "order" -> a[0] < coming() ? flight.order().get(a[0] + 1) : NONE;
            case "toKeep" -> ofSet(flight.keepFor(Integer.bitCount(flight.flying())), a[0]);
            case "whole" -> ofSet(flight.keepFor(a[0]), a[1]);
            case "meal" -> flight.meal()[a[0]];
            case "beloved" -> flight.beloved()[a[0]];
            case "storm" -> flight.storm(a[0], a[1])[a[2]];
            default -> flight.drawn(a[0], a[1])[a[2]];
        };
    }

    private static int ofSet(int set, int what) {
        return set == NONE || what == 1 ? set : Integer.bitCount(set);
    }

    private int valley(int valley, int what) {
        List<Model.Valley> line = new ArrayList<>();
        if (flight != null) {
            line.addAll(flight.behind);
            line.addAll(flight.coming);
        }
        for (Model.Valley v : line) {
            if (v.number() == valley && isWithin(what, 0, 2)) {
                return new int[] {v.asks(), v.loss(), line.indexOf(v)}[what];
            }
        }
        return BAD;
    }

    private int ofABird(String name, int bird, int second) {
        Model.Bird b = flight.birds.get(bird);
        switch (name) {
            case "eat":
                act();
                return flight.fed(bird).birds.get(bird).strong;
            case "keep": return isWithin(second, 0, 1) ? keep(b, second == 1) : BAD;
            case "call":
                if (b.flies) {
                    return STATE;
                }
                act();
                b.flies = true;
                return flight.flying();
            case "bird": return isWithin(second, 0, 5) ? of(b)[second] : BAD;
            case "where": return flight.where(bird);
            case "strength": return isWithin(second, 0, 5) ? flight.strength(bird, second) : BAD;
            case "catches": return b.flies ? flight.catches(bird) : STATE;
            case "kind": return kind(bird);
            default: return isWithin(second, 0, 1) ? ask(bird, second) : BAD;
        }
    }

    private int[] of(Model.Bird b) {
        return new int[] {b.strong, b.leaves, b.loves, b.flies ? 1 : 0, b.kept ? 1 : 0, flight.loss(b)};
    }

    private int keep(Model.Bird b, boolean on) {
        if (b.kept == on) {
            return STATE;
        }
        act();
        b.kept = on;
        int kept = 0;
        for (int i = 0; i < flight.birds.size(); i++) {
            kept += flight.birds.get(i).kept ? 1 << i : 0;
        }
        return kept;
    }

    private int ask(int bird, int what) {
        trace.clear();
        return asked(bird, what);
    }

    private int asked(int bird, int what) {
        return switch (10 * kind(bird) + what) {
            case 10, 30 -> body(bird, 11);
            case 20 -> body(bird, 12);
            case 40 -> body(bird, 13);
            case 50 -> body(bird, 14);
            case 11 -> body(bird, 21);
            case 21 -> body(bird, 24);
            case 31 -> body(bird, 22);
            default -> body(bird, 23);
        };
    }

    private int body(int bird, int number) {
        trace.add(number);
        Model.Bird b = flight.birds.get(bird);
        return switch (number) {
            case 10 -> b.strong;
            case 11 -> body(bird, 10) + asked(bird, 1);
            case 12 -> 0 - body(bird, 11);
            case 13 -> body(bird, 10) - 100;
            case 14 -> body(bird, 13) * 2;
            case 20 -> bird;
            case 21 -> body(bird, 20) + b.leaves;
            case 22 -> body(bird, 21) - 1000;
            case 23 -> body(bird, 20) - asked(bird, 0);
            default -> body(bird, 21) * 2;
        };
    }
}
