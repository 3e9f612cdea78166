/** The birds' flight to their king: told in a text, flown, foretold, undone. README.md tells how to use it. */
public final class ThirtyBirds {
    public static final int NONE = -1000000, BAD = -1000001, STATE = -1000002, FULL = -1000003;

    private static final int FINDINGS = -1000010, FAULTS = -1000100;
    private static final int NULL = 1, PLACE = 2, KIND = 3, SIZE = 4, STORE = 5;
    private static final int CANNOT_STAND = 1, NOT_AS_TOLD = 2, NO_ROOM = 3;

    private static final int BIRD = 0, HAWK = 1, DOVE = 2, OLD = 3, NIGHTINGALE = 4, PEACOCK = 5;
    private static final int[] KIND_ABOVE = {BIRD, BIRD, HAWK, HAWK, BIRD, NIGHTINGALE};

    private static final int ROWS = 8, ITEMS = 40, BYTES = 0, SHORTS = 1, LANES = 3;
    private static final int TAPE = 120, TRACE = 16, ACTS = 24, IMAGES = 2;
    /** Above what any ask needs: a kind has two above it at most, and two asks stand open at once. */
    private static final int DEEPEST_ASK = 20;
    private static final int VALLEYS = 5, MOST_ORDERS = 120, BIRDS = 6, FLOCKS = 40, LARGEST_SEED = 999999;
    private static final int MOST_FEED = 9, MOST_ASKS = 20, MOST_LOSS = 9;
    private static final int MOST_STRONG = 30, MOST_LEAVES = 6, MOST_LOVES = 5;
    private static final int PEACOCK_LOSS = 3, STORM_LOSS = 5, STORM_PARTS = 10;

    private final Row[] rows = new Row[ROWS];
    private final Tape tape = new Tape();
    private final Flight now = new Flight();
    /** What is foretold is flown here, so that nothing changes in the flight itself. */
    private final Flight trial = new Flight();
    private final Flight[] images = new Flight[IMAGES];
    private final Acts acts = new Acts();
    private final Orders orders = new Orders();
    private final Asks asks = new Asks();
    private int finding = 0;

    public ThirtyBirds() {
        for (int i = 0; i < ROWS; i++) {
            rows[i] = new Row();
        }
        for (int i = 0; i < IMAGES; i++) {
            images[i] = new Flight();
        }
    }

    // ---- rows

    public int row(int row, int lane, int n) {
        if (!isRow(row) || !isWithin(lane, LANES - 1) || n > ITEMS) {
            return BAD;
        }
        if (n < 0) {
            return found(SIZE);
        }
        rows[row].begin(lane, n);
        return well(n);
    }

    public int set(int row, int i, int v) {
        if (!isRow(row)) {
            return BAD;
        }
        Row r = rows[row];
        if (!r.there) {
            return found(NULL);
        }
        if (!r.has(i, 1)) {
            return found(PLACE);
        }
        return well(r.put(i, v));
    }

    public int copy(int a, int i, int b, int j, int n) {
        if (!isRow(a) || !isRow(b)) {
            return BAD;
        }
        Row from = rows[a];
        Row to = rows[b];
        if (!from.there || !to.there) {
            return found(NULL);
        }
        if (from.lane != to.lane) {
            return found(STORE);
        }
        if (!from.has(i, n) || !to.has(j, n)) {
            return found(PLACE);
        }
        System.arraycopy(from.items, i, to.items, j, n);
        return well(n);
    }

    public int drop(int row) {
        if (!isRow(row)) {
            return BAD;
        }
        Row r = rows[row];
        if (!r.there) {
            return found(NULL);
        }
        r.there = false;
        return well(r.length);
    }

    // ---- flights, acts

    public int feed(int letter) {
        if (!isWithin(letter, 255)) {
            return BAD;
        }
        return tape.add(letter) ? tape.length : FULL;
    }

    public int flight() {
        boolean isRead = tape.readInto(trial);
        tape.length = 0;
        if (!isRead) {
            return FAULTS - tape.faultPlace;
        }
        now.become(trial);
        acts.forgetAll();
        return now.told.birds;
    }

    public int fault() {
        return tape.faultNumber;
    }

    public int fly() {
        if (now.coming() < 1) {
            return STATE;
        }
        acts.remember(now.moment);
        now.flyNext();
        return now.moment.flying;
    }

    public int eat(int bird) {
        if (!isBird(bird)) {
            return BAD;
        }
        acts.remember(now.moment);
        now.strengthen(bird);
        return now.moment.strong[bird];
    }

    public int keep(int bird, int on) {
        if (!isBird(bird) || !isWithin(on, 1)) {
            return BAD;
        }
        Moment moment = now.moment;
        if (bitOf(moment.kept, bird) == on) {
            return STATE;
        }
        acts.remember(moment);
        moment.kept ^= 1 << bird;
        return moment.kept;
    }

    public int call(int bird) {
        if (!isBird(bird)) {
            return BAD;
        }
        Moment moment = now.moment;
        if (moment.flies(bird)) {
            return STATE;
        }
        acts.remember(moment);
        moment.flying |= 1 << bird;
        return moment.flying;
    }

    public int swap() {
        if (now.coming() < 2) {
            return STATE;
        }
        Moment moment = now.moment;
        acts.remember(moment);
        exchange(moment.line, moment.through, moment.through + 1);
        return moment.line[moment.through];
    }

    public int undo() {
        if (acts.length < 1) {
            return STATE;
        }
        acts.takeBack(now.moment);
        return acts.length;
    }

    public int bird(int bird, int what) {
        if (!isBird(bird)) {
            return BAD;
        }
        Moment moment = now.moment;
        switch (what) {
            case 0: return moment.strong[bird];
            case 1: return now.told.leaves[bird];
            case 2: return now.told.loves[bird];
            case 3: return bitOf(moment.flying, bird);
            case 4: return bitOf(moment.kept, bird);
            case 5: return now.coming() > 0 && moment.flies(bird) ? now.lossOf(bird) : 0;
            default: return BAD;
        }
    }

    public int valley(int valley, int what) {
        if (valley < 0 || valley >= now.told.valleys) {
            return BAD;
        }
        switch (what) {
            case 0: return now.told.asks[valley];
            case 1: return now.told.losses[valley];
            case 2: return now.placeOf(valley);
            default: return BAD;
        }
    }

    // ---- foretold

    public int arrive() {
        if (!now.isThere()) {
            return STATE;
        }
        trial.become(now);
        return trial.arriving();
    }

    public int where(int bird) {
        if (!isBird(bird)) {
            return BAD;
        }
        if (!now.moment.flies(bird)) {
            return -1;
        }
        trial.become(now);
        for (int place = now.moment.through; place < now.told.valleys; place++) {
            trial.flyNext();
            if (!trial.moment.flies(bird)) {
                return place;
            }
        }
        return NONE;
    }

    public int strength(int bird, int k) {
        if (!isBird(bird) || !isWithin(k, VALLEYS)) {
            return BAD;
        }
        trial.become(now);
        int more = Math.min(k, now.coming());
        for (int i = 0; i < more; i++) {
            trial.flyNext();
        }
        return trial.moment.strong[bird];
    }

    public int order(int k) {
        if (!now.isThere()) {
            return STATE;
        }
        if (k < -1 || k >= VALLEYS) {
            return BAD;
        }
        if (k >= now.coming()) {
            return NONE;
        }
        seekOrder();
        return k < 0 ? orders.most : orders.best[k];
    }

    public int toKeep(int what) {
        if (!now.isThere()) {
            return STATE;
        }
        if (!isWithin(what, 1)) {
            return BAD;
        }
        int all = Integer.bitCount(now.moment.flying);
        return toldOfSet(fewestToKeep(all), what);
    }

    public int whole(int m, int what) {
        if (!now.isThere()) {
            return STATE;
        }
        if (!isWithin(m, BIRDS) || !isWithin(what, 1)) {
            return BAD;
        }
        return toldOfSet(fewestToKeep(m), what);
    }

    public int meal(int what) {
        if (!now.isThere()) {
            return STATE;
        }
        if (!isWithin(what, 1)) {
            return BAD;
        }
        int first = NONE;
        int most = NONE;
        for (int bird = 0; bird < now.told.birds; bird++) {
            if (now.moment.flies(bird)) {
                trial.become(now);
                trial.strengthen(bird);
                int arrived = Integer.bitCount(trial.arriving());
                if (arrived > most) {
                    most = arrived;
                    first = bird;
                }
            }
        }
        return what == 0 ? first : most;
    }

    public int catches(int bird) {
        if (!isBird(bird)) {
            return BAD;
        }
        if (!now.moment.flies(bird)) {
            return STATE;
        }
        int others = ~(1 << bird);
        trial.become(now);
        int withIt = Integer.bitCount(trial.arriving() & others);
        trial.become(now);
        trial.moment.turnBack(1 << bird);
        return withIt - Integer.bitCount(trial.arriving() & others);
    }

    public int beloved(int what) {
        if (!now.isThere()) {
            return STATE;
        }
        if (!isWithin(what, 1)) {
            return BAD;
        }
        int first = NONE;
        int most = 0;
        for (int bird = 0; bird < now.told.birds; bird++) {
            int lovers = now.loversOf(bird);
            if (lovers > most) {
                most = lovers;
                first = bird;
            }
        }
        return what == 0 || first == NONE ? first : most;
    }

    public int fits(int bird, int row, int i, int n, int what) {
        if (!isBird(bird) || !isRow(row) || !mayCome(n) || !isWithin(what, 1)) {
            return BAD;
        }
        Row r = rows[row];
        if (!r.there) {
            return found(NULL);
        }
        if (!r.has(i, n)) {
            return found(PLACE);
        }
        return well(what == 0 ? sortsSeen(bird, r, i, n) : leavesSeen(bird, r, i, n));
    }

    public int asked(int row, int i, int n) {
        if (now.coming() < 1) {
            return STATE;
        }
        if (!isRow(row) || !mayCome(n)) {
            return BAD;
        }
        Row r = rows[row];
        if (!r.there) {
            return found(NULL);
        }
        if (!r.has(i, n)) {
            return found(PLACE);
        }
        return well(asksSeen(r, i, n));
    }

    public int storm(int m, int c, int what) {
        if (!now.isThere()) {
            return STATE;
        }
        if (!isWithin(m, BIRDS) || !isWithin(c, STORM_PARTS) || !isWithin(what, 1)) {
            return BAD;
        }
        int above = stormWeight(m, c);
        int below = power(STORM_PARTS, Integer.bitCount(now.moment.flying));
        int common = commonDivisor(above, below);
        if (common < 1) {
            return NONE;
        }
        return what == 0 ? above / common : below / common;
    }

    public int drawn(int n, int seed, int what) {
        if (!now.isThere()) {
            return STATE;
        }
        if (!isWithin(n, FLOCKS) || seed < 1 || seed > LARGEST_SEED || !isWithin(what, 1)) {
            return BAD;
        }
        long x = seed;
        int arrived = 0;
        int flocks = 0;
        for (int i = 0; i < n; i++) {
            x = x * 16807L % 2147483647L;
            trial.become(now);
            trial.strike(x);
            int arriving = Integer.bitCount(trial.arriving());
            arrived += arriving;
            flocks += arriving > 0 ? 1 : 0;
        }
        return what == 0 ? arrived : flocks;
    }

    public int image(int k) {
        if (!isWithin(k, IMAGES - 1)) {
            return BAD;
        }
        if (!now.isThere()) {
            return STATE;
        }
        images[k].become(now);
        return 1;
    }

    public int restore(int k) {
        if (!isWithin(k, IMAGES - 1)) {
            return BAD;
        }
        if (!images[k].isThere()) {
            return STATE;
        }
        now.become(images[k]);
        acts.forgetAll();
        return 1;
    }

    // ---- asked

    public int kind(int bird) {
        return isBird(bird) ? now.told.kinds[bird] : BAD;
    }

    public int as(int bird, int kind) {
        if (!isBird(bird) || !isWithin(kind, PEACOCK)) {
            return BAD;
        }
        return isOfKind(now.told.kinds[bird], kind) ? well(bird) : found(KIND);
    }

    public int ask(int bird, int what) {
        if (!isBird(bird) || !isWithin(what, 1)) {
            return BAD;
        }
        asks.begin(now, bird);
        int kind = now.told.kinds[bird];
        return what == 0 ? asks.size(kind, 0) : asks.mark(kind, 0);
    }

    public int trace(int i) {
        return i >= 0 && i < asks.length ? asks.bodies[i] : NONE;
    }

    public int count(int what) {
        switch (what) {
            case 0: return rowsThere();
            case 1: return now.told.valleys;
            case 2: return now.told.birds;
            case 3: return now.moment.through;
            case 4: return now.moment.flying;
            case 5: return now.moment.turned;
            case 6: return acts.length;
            case 7: return tape.length;
            default: return BAD;
        }
    }

    public int status() {
        return finding;
    }

    // ---- what the calls share

    private int found(int number) {
        finding = number;
        return FINDINGS - number;
    }

    private int well(int answer) {
        finding = 0;
        return answer;
    }

    private static boolean isWithin(int value, int most) {
        return value >= 0 && value <= most;
    }

    private static boolean isRow(int row) {
        return isWithin(row, ROWS - 1);
    }

    private boolean isBird(int bird) {
        return bird >= 0 && bird < now.told.birds;
    }

    private boolean mayCome(int n) {
        return n >= 1 && n <= now.coming();
    }

    private static int bitOf(int set, int bird) {
        return set >> bird & 1;
    }

    private static void exchange(int[] line, int a, int b) {
        int was = line[a];
        line[a] = line[b];
        line[b] = was;
    }

    private int rowsThere() {
        int there = 0;
        for (int i = 0; i < ROWS; i++) {
            there += rows[i].there ? 1 : 0;
        }
        return there;
    }

    private static boolean isOfKind(int own, int kind) {
        int k = own;
        for (int step = 0; step < KIND_ABOVE.length; step++) {
            if (k == kind) {
                return true;
            }
            k = KIND_ABOVE[k];
        }
        return false;
    }

    private void seekOrder() {
        orders.begin(now.moment.line, now.moment.through, now.coming());
        for (int i = 0; i < MOST_ORDERS; i++) {
            trial.become(now);
            orders.layInto(trial.moment.line, now.moment.through);
            orders.weigh(Integer.bitCount(trial.arriving()));
            if (!orders.stepOn()) {
                return;
            }
        }
    }

    /** The least of the smallest sets that, kept too, let so many arrive; NONE if none does. */
    private int fewestToKeep(int arrivals) {
        int free = now.moment.flying & ~now.moment.kept;
        int best = NONE;
        int fewest = BIRDS + 1;
        for (int set = 0; set <= free; set++) {
            if ((set & ~free) == 0 && Integer.bitCount(set) < fewest) {
                trial.become(now);
                trial.moment.kept |= set;
                if (Integer.bitCount(trial.arriving()) >= arrivals) {
                    best = set;
                    fewest = Integer.bitCount(set);
                }
            }
        }
        return best;
    }

    private static int toldOfSet(int set, int what) {
        return set == NONE || what == 1 ? set : Integer.bitCount(set);
    }

    private int sortsSeen(int bird, Row r, int i, int n) {
        int sorts = 0;
        for (int kind = HAWK; kind <= PEACOCK; kind++) {
            trial.become(now);
            trial.told.kinds[bird] = kind;
            sorts |= isSeen(r, i, n) ? 1 << kind : 0;
        }
        return sorts;
    }

    private int leavesSeen(int bird, Row r, int i, int n) {
        int seen = 0;
        for (int leaves = 0; leaves <= MOST_LEAVES; leaves++) {
            trial.become(now);
            trial.told.leaves[bird] = leaves;
            seen |= isSeen(r, i, n) ? 1 << leaves : 0;
        }
        return seen;
    }

    private int asksSeen(Row r, int i, int n) {
        int next = now.nextValley();
        int seen = 0;
        for (int ask = 0; ask <= MOST_ASKS; ask++) {
            trial.become(now);
            trial.told.asks[next] = ask;
            seen |= isSeen(r, i, n) ? 1 << ask : 0;
        }
        return seen;
    }

    /** Whether the trial's next n valleys leave those flying that the row tells from i on. */
    private boolean isSeen(Row r, int i, int n) {
        for (int k = 0; k < n; k++) {
            trial.flyNext();
            if (trial.moment.flying != r.items[i + k]) {
                return false;
            }
        }
        return true;
    }

    /** How many of all 10 to the power of the flying birds let m or more arrive. */
    private int stormWeight(int m, int c) {
        int flying = now.moment.flying;
        int weight = 0;
        for (int hit = 0; hit <= flying; hit++) {
            if ((hit & ~flying) == 0) {
                trial.become(now);
                trial.weaken(hit);
                if (Integer.bitCount(trial.arriving()) >= m) {
                    int spared = Integer.bitCount(flying & ~hit);
                    weight += power(c, Integer.bitCount(hit)) * power(STORM_PARTS - c, spared);
                }
            }
        }
        return weight;
    }

    private static int power(int base, int exponent) {
        int product = 1;
        for (int i = 0; i < exponent; i++) {
            product *= base;
        }
        return product;
    }

    /** Of numbers up to a million, for which a hundred steps are far more than it takes. */
    private static int commonDivisor(int a, int b) {
        int greater = a;
        int less = b;
        for (int step = 0; step < 100 && less != 0; step++) {
            int rest = greater % less;
            greater = less;
            less = rest;
        }
        return greater;
    }

    private static final class Row {
        boolean there = false;
        int lane = 0;
        int length = 0;
        /** Made once with room for the longest row: calls make no arrays. */
        final int[] items = new int[ITEMS];

        void begin(int newLane, int n) {
            there = true;
            lane = newLane;
            length = n;
            for (int i = 0; i < n && i < ITEMS; i++) {
                items[i] = 0;
            }
        }

        /** Whether n items stand from i on; i is held against length - n, as i + n may wrap around. */
        boolean has(int i, int n) {
            return i >= 0 && n >= 0 && n <= length && i <= length - n;
        }

        int put(int i, int v) {
            items[i] = lane == BYTES ? (byte) v : lane == SHORTS ? (short) v : v;
            return items[i];
        }
    }

    /** What a text tells; while something is foretold, what is supposed of it stands here too. */
    private static final class Told {
        int lawOfFeed = 0;
        int valleys = 0;
        int birds = 0;
        final int[] asks = new int[VALLEYS];
        final int[] losses = new int[VALLEYS];
        final int[] kinds = new int[BIRDS];
        final int[] leaves = new int[BIRDS];
        final int[] loves = new int[BIRDS];

        void become(Told other) {
            lawOfFeed = other.lawOfFeed;
            valleys = other.valleys;
            birds = other.birds;
            System.arraycopy(other.asks, 0, asks, 0, VALLEYS);
            System.arraycopy(other.losses, 0, losses, 0, VALLEYS);
            System.arraycopy(other.kinds, 0, kinds, 0, BIRDS);
            System.arraycopy(other.leaves, 0, leaves, 0, BIRDS);
            System.arraycopy(other.loves, 0, loves, 0, BIRDS);
        }
    }

    /** What acts change, and undoing brings back. */
    private static final class Moment {
        int flying = 0;
        int kept = 0;
        /** All in all: one that was called and turned back again counts twice. */
        int turned = 0;
        int through = 0;
        final int[] strong = new int[BIRDS];
        /** The valleys as they are flown through, those behind the birds too. */
        final int[] line = new int[VALLEYS];

        void become(Moment other) {
            flying = other.flying;
            kept = other.kept;
            turned = other.turned;
            through = other.through;
            System.arraycopy(other.strong, 0, strong, 0, BIRDS);
            System.arraycopy(other.line, 0, line, 0, VALLEYS);
        }

        boolean flies(int bird) {
            return (flying >> bird & 1) == 1;
        }

        void turnBack(int set) {
            flying &= ~set;
            turned += Integer.bitCount(set);
        }
    }

    /** One without valleys is none: a text tells one valley at least. */
    private static final class Flight {
        final Told told = new Told();
        final Moment moment = new Moment();

        void become(Flight other) {
            told.become(other.told);
            moment.become(other.moment);
        }

        void clear() {
            told.valleys = 0;
            told.birds = 0;
            moment.flying = 0;
            moment.kept = 0;
            moment.turned = 0;
            moment.through = 0;
        }

        void addValley(int asks, int loss) {
            int valley = told.valleys;
            if (valley < VALLEYS) {
                told.asks[valley] = asks;
                told.losses[valley] = loss;
                moment.line[valley] = valley;
                told.valleys = valley + 1;
            }
        }

        void addBird(int kind, int strong, int leaves, int loves) {
            int bird = told.birds;
            if (bird < BIRDS) {
                told.kinds[bird] = kind;
                told.leaves[bird] = leaves;
                told.loves[bird] = loves;
                moment.strong[bird] = strong;
                moment.flying |= 1 << bird;
                told.birds = bird + 1;
            }
        }

        boolean isThere() {
            return told.valleys > 0;
        }

        int coming() {
            return told.valleys - moment.through;
        }

        int nextValley() {
            return moment.line[moment.through];
        }

        int placeOf(int valley) {
            for (int place = 0; place < told.valleys; place++) {
                if (moment.line[place] == valley) {
                    return place;
                }
            }
            return NONE;
        }

        void strengthen(int bird) {
            moment.strong[bird] = Math.min(MOST_STRONG, moment.strong[bird] + told.lawOfFeed);
        }

        void weaken(int set) {
            for (int bird = 0; bird < told.birds; bird++) {
                if (bitOf(set, bird) == 1) {
                    moment.strong[bird] = Math.max(0, moment.strong[bird] - STORM_LOSS);
                }
            }
        }

        /** What a draw does to the bird that it falls on. */
        void strike(long x) {
            if (told.birds < 1) {
                return;
            }
            int bird = (int) (x % told.birds);
            long rest = x % 3;
            if (rest == 0 && moment.flies(bird)) {
                moment.turnBack(1 << bird);
            } else if (rest == 1) {
                strengthen(bird);
            }
        }

        int loversOf(int loved) {
            int lovers = 0;
            for (int bird = 0; bird < told.birds; bird++) {
                if (bird != loved && moment.flies(bird) && told.loves[bird] == loved) {
                    lovers++;
                }
            }
            return lovers;
        }

        /** What the next valley, that must come, takes from a bird that flies. */
        int lossOf(int bird) {
            int loss = told.losses[nextValley()];
            boolean isLed = moment.flies(told.loves[bird]);
            switch (told.kinds[bird]) {
                case DOVE: return loss + moment.turned;
                case OLD: return 2 * loss;
                case NIGHTINGALE: return isLed ? 0 : loss;
                case PEACOCK: return isLed ? 0 : PEACOCK_LOSS;
                default: return loss;
            }
        }

        /** Rounds of leaving are as many as birds: one in which nobody leaves is the last that could matter. */
        void flyNext() {
            if (coming() < 1) {
                return;
            }
            takeStrength();
            moment.turnBack(tooWeak(told.asks[nextValley()]));
            for (int round = 0; round < BIRDS; round++) {
                moment.turnBack(leavingByOthers());
            }
            moment.through++;
        }

        /** Changes nothing but strength, by which no loss is told: so each loss is by what was ahead. */
        void takeStrength() {
            for (int bird = 0; bird < told.birds; bird++) {
                if (moment.flies(bird)) {
                    moment.strong[bird] = Math.max(0, moment.strong[bird] - lossOf(bird));
                }
            }
        }

        int tooWeak(int ask) {
            int weak = 0;
            for (int bird = 0; bird < told.birds; bird++) {
                weak |= moment.strong[bird] < ask ? 1 << bird : 0;
            }
            return weak & moment.flying & ~moment.kept;
        }

        int leavingByOthers() {
            int leaving = 0;
            for (int bird = 0; bird < told.birds; bird++) {
                int leaves = told.leaves[bird];
                leaving |= leaves > 0 && leaves <= moment.turned ? 1 << bird : 0;
            }
            return leaving & moment.flying & ~moment.kept;
        }

        /** Flies through all that come: who arrives. */
        int arriving() {
            for (int i = 0; i < VALLEYS; i++) {
                flyNext();
            }
            return moment.flying;
        }
    }

    /** The moments ahead of the latest acts, in a ring whose oldest is written over. */
    private static final class Acts {
        final Moment[] ahead = new Moment[ACTS];
        int next = 0;
        int length = 0;

        Acts() {
            for (int i = 0; i < ACTS; i++) {
                ahead[i] = new Moment();
            }
        }

        void forgetAll() {
            length = 0;
        }

        void remember(Moment moment) {
            ahead[next].become(moment);
            next = next < ACTS - 1 ? next + 1 : 0;
            length = Math.min(ACTS, length + 1);
        }

        void takeBack(Moment moment) {
            next = next > 0 ? next - 1 : ACTS - 1;
            moment.become(ahead[next]);
            length--;
        }
    }

    /** Tries the orders of the valleys that come, the first by numbers first. */
    private static final class Orders {
        final int[] tried = new int[VALLEYS];
        final int[] best = new int[VALLEYS];
        int length = 0;
        int most = 0;

        void begin(int[] line, int from, int n) {
            length = n;
            most = -1;
            System.arraycopy(line, from, tried, 0, n);
            putInOrder(0);
        }

        void layInto(int[] line, int from) {
            System.arraycopy(tried, 0, line, from, length);
        }

        void weigh(int arrived) {
            if (arrived > most) {
                most = arrived;
                System.arraycopy(tried, 0, best, 0, length);
            }
        }

        /** To the order that comes next by numbers, if there is one. */
        boolean stepOn() {
            int rise = length - 2;
            while (rise >= 0 && tried[rise] > tried[rise + 1]) {
                rise--;
            }
            if (rise < 0) {
                return false;
            }
            int above = length - 1;
            while (above > rise + 1 && tried[above] < tried[rise]) {
                above--;
            }
            exchange(tried, rise, above);
            putInOrder(rise + 1);
            return true;
        }

        void putInOrder(int from) {
            for (int i = from; i < length; i++) {
                for (int j = i + 1; j < length; j++) {
                    if (tried[j] < tried[i]) {
                        exchange(tried, i, j);
                    }
                }
            }
        }
    }

    /** The bodies that answer asks of one bird, and the trace that they leave; asks carry how deep they are. */
    private static final class Asks {
        final int[] bodies = new int[TRACE];
        int length = 0;
        int number = 0;
        int kind = BIRD;
        int strong = 0;
        int leaves = 0;

        void begin(Flight flight, int bird) {
            length = 0;
            number = bird;
            kind = flight.told.kinds[bird];
            strong = flight.moment.strong[bird];
            leaves = flight.told.leaves[bird];
        }

        void note(int body) {
            if (length < TRACE) {
                bodies[length] = body;
                length++;
            }
        }

        /** By the body that is told for a kind; a kind without one goes to the kind above. */
        private int size(int of, int depth) {
            if (depth > DEEPEST_ASK) {
                return 0;
            }
            switch (of) {
                case HAWK: {
                    note(11);
                    int given = size(BIRD, depth + 1);
                    return given + mark(kind, depth + 1);
                }
                case DOVE:
                    note(12);
                    return -size(HAWK, depth + 1);
                case OLD:
                    return size(HAWK, depth + 1);
                case NIGHTINGALE:
                    note(13);
                    return size(BIRD, depth + 1) - 100;
                case PEACOCK:
                    note(14);
                    return 2 * size(NIGHTINGALE, depth + 1);
                default:
                    note(10);
                    return strong;
            }
        }

        private int mark(int of, int depth) {
            if (depth > DEEPEST_ASK) {
                return 0;
            }
            switch (of) {
                case HAWK:
                    note(21);
                    return mark(BIRD, depth + 1) + leaves;
                case DOVE:
                    note(24);
                    return 2 * mark(HAWK, depth + 1);
                case OLD:
                    note(22);
                    return mark(HAWK, depth + 1) - 1000;
                case NIGHTINGALE: {
                    note(23);
                    int given = mark(BIRD, depth + 1);
                    return given - size(kind, depth + 1);
                }
                case PEACOCK:
                    return mark(NIGHTINGALE, depth + 1);
                default:
                    note(20);
                    return number;
            }
        }
    }

    /** The tape, and what reads it: token by token, up to the first fault. */
    private static final class Tape {
        final int[] letters = new int[TAPE];
        int length = 0;
        int faultNumber = 0;
        int faultPlace = 0;
        int at = 0;
        boolean isFaulty = false;

        boolean add(int letter) {
            if (length >= TAPE) {
                return false;
            }
            letters[length] = letter;
            length++;
            return true;
        }

        /** The end reads as -1, which no token begins with. */
        int letterAt(int place) {
            return place >= 0 && place < length ? letters[place] : -1;
        }

        boolean fail(int number, int place) {
            isFaulty = true;
            faultNumber = number;
            faultPlace = place;
            return false;
        }

        boolean readInto(Flight flight) {
            at = 0;
            isFaulty = false;
            flight.clear();
            return readLaw(flight) && readValleys(flight) && readBirds(flight);
        }

        boolean readLaw(Flight flight) {
            passes('f');
            flight.told.lawOfFeed = number(MOST_FEED);
            return passes(';');
        }

        boolean readValleys(Flight flight) {
            for (int valley = 0; valley < VALLEYS; valley++) {
                if (!readValley(flight)) {
                    return false;
                }
                if (letterAt(at) != 'v') {
                    return true;
                }
            }
            return fail(NO_ROOM, at);
        }

        boolean readValley(Flight flight) {
            passes('v');
            int asks = number(MOST_ASKS);
            passes(',');
            int loss = number(MOST_LOSS);
            if (!passes(';')) {
                return false;
            }
            flight.addValley(asks, loss);
            return true;
        }

        boolean readBirds(Flight flight) {
            for (int bird = 0; bird < BIRDS && at < length; bird++) {
                if (!readBird(flight)) {
                    return false;
                }
            }
            if (at < length) {
                return fail(kindTold(letterAt(at)) == BIRD ? CANNOT_STAND : NO_ROOM, at);
            }
            return true;
        }

        boolean readBird(Flight flight) {
            int kind = kindTold(letterAt(at));
            if (kind == BIRD) {
                return fail(CANNOT_STAND, at);
            }
            at++;
            int strong = number(MOST_STRONG);
            passes(',');
            int leaves = number(MOST_LEAVES);
            passes(',');
            int loves = number(MOST_LOVES);
            if (!passes(';')) {
                return false;
            }
            flight.addBird(kind, strong, leaves, loves);
            return true;
        }

        static int kindTold(int letter) {
            switch (letter) {
                case 'h': return HAWK;
                case 'd': return DOVE;
                case 'o': return OLD;
                case 'n': return NIGHTINGALE;
                case 'p': return PEACOCK;
                default: return BIRD;
            }
        }

        /** Once there is a fault nothing passes any more: so the first one stands, and a last sign answers for all. */
        boolean passes(char letter) {
            if (isFaulty) {
                return false;
            }
            if (letterAt(at) != letter) {
                return fail(CANNOT_STAND, at);
            }
            at++;
            return true;
        }

        int number(int most) {
            if (isFaulty) {
                return 0;
            }
            int value = 0;
            int end = at;
            while (end < length && isFigure(letterAt(end)) && end < at + 3) {
                value = value * 10 + letterAt(end) - '0';
                end++;
            }
            int figures = end - at;
            if (figures < 1 || figures > 2) {
                fail(CANNOT_STAND, at);
                return 0;
            }
            if (value > most) {
                fail(NOT_AS_TOLD, at);
                return 0;
            }
            at = end;
            return value;
        }

        static boolean isFigure(int letter) {
            return letter >= '0' && letter <= '9';
        }
    }
}
