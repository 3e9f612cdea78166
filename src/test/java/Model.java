import java.math.BigInteger;
import java.util.ArrayList;
import java.util.List;

/** A second reckoning of flights, written apart from the program: lists and copies, nothing kept small. */
final class Model {
    static final class Bird {
        char sort;
        int strong;
        int leaves;
        int loves;
        boolean flies = true;
        boolean kept = false;

        Bird(char sort, int strong, int leaves, int loves) {
            this.sort = sort;
            this.strong = strong;
            this.leaves = leaves;
            this.loves = loves;
        }

        Bird twin() {
            Bird b = new Bird(sort, strong, leaves, loves);
            b.flies = flies;
            b.kept = kept;
            return b;
        }
    }

    record Valley(int number, int asks, int loss) { }

    static final String SORTS = "hdonp";
    int feed;
    int turned = 0;
    int through = 0;
    List<Bird> birds = new ArrayList<>();
    List<Valley> coming = new ArrayList<>();
    List<Valley> behind = new ArrayList<>();

    Model twin() {
        Model m = new Model();
        m.feed = feed;
        m.turned = turned;
        m.through = through;
        for (Bird b : birds) {
            m.birds.add(b.twin());
        }
        m.coming.addAll(coming);
        m.behind.addAll(behind);
        return m;
    }

    String text() {
        StringBuilder s = new StringBuilder("f" + feed + ";");
        for (Valley v : coming) {
            s.append("v" + v.asks + "," + v.loss + ";");
        }
        for (Bird b : birds) {
            s.append(b.sort + "" + b.strong + "," + b.leaves + "," + b.loves + ";");
        }
        return s.toString();
    }

    boolean isFlying(int bird) {
        return bird < birds.size() && birds.get(bird).flies;
    }

    int flying() {
        int set = 0;
        for (int i = 0; i < birds.size(); i++) {
            set += birds.get(i).flies ? (int) Math.pow(2, i) : 0;
        }
        return set;
    }

    int loss(Bird b) {
        if (!b.flies || coming.isEmpty()) {
            return 0;
        }
        int loss = coming.get(0).loss;
        if (b.sort == 'd') {
            loss += turned;
        } else if (b.sort == 'o') {
            loss += loss;
        } else if (b.sort == 'n' && isFlying(b.loves)) {
            loss = 0;
        } else if (b.sort == 'p') {
            loss = isFlying(b.loves) ? 0 : 3;
        }
        return loss;
    }

    Model turnBack(int bird) {
        birds.get(bird).flies = false;
        turned++;
        return this;
    }

    Model fed(int bird) {
        Bird b = birds.get(bird);
        b.strong = Math.min(30, b.strong + feed);
        return this;
    }

    Model flyOne() {
        List<Integer> losses = new ArrayList<>();
        for (Bird b : birds) {
            losses.add(loss(b));
        }
        for (int i = 0; i < birds.size(); i++) {
            Bird b = birds.get(i);
            b.strong = Math.max(0, b.strong - losses.get(i));
        }
        Valley v = coming.remove(0);
        behind.add(v);
        through++;
        List<Bird> leaving = new ArrayList<>();
        for (Bird b : birds) {
            if (b.flies && !b.kept && b.strong < v.asks) {
                leaving.add(b);
            }
        }
        while (!leaving.isEmpty()) {
            leave(leaving);
            leaving = followers();
        }
        // Those that were called back may leave though nobody was too weak.
        for (leaving = followers(); !leaving.isEmpty(); leaving = followers()) {
            leave(leaving);
        }
        return this;
    }

    private void leave(List<Bird> leaving) {
        for (Bird b : leaving) {
            b.flies = false;
            turned++;
        }
    }

    private List<Bird> followers() {
        List<Bird> leaving = new ArrayList<>();
        for (Bird b : birds) {
            if (b.flies && !b.kept && b.leaves > 0 && b.leaves <= turned) {
                leaving.add(b);
            }
        }
        return leaving;
    }

    Model flyAll() {
        Model m = twin();
        while (!m.coming.isEmpty()) {
            m.flyOne();
        }
        return m;
    }

    int arrive() {
        return flyAll().flying();
    }

    int arrivals() {
        return (int) flyAll().birds.stream().filter(b -> b.flies).count();
    }

    int where(int bird) {
        if (!isFlying(bird)) {
            return -1;
        }
        Model m = twin();
        while (!m.coming.isEmpty()) {
            m.flyOne();
            if (!m.isFlying(bird)) {
                return m.through - 1;
            }
        }
        return ThirtyBirds.NONE;
    }

    int strength(int bird, int k) {
        Model m = twin();
        for (int i = 0; i < k && !m.coming.isEmpty(); i++) {
            m.flyOne();
        }
        return m.birds.get(bird).strong;
    }

    /** How many arrive by the best order, and then the valleys as they come in it. */
    List<Integer> order() {
        List<Integer> best = new ArrayList<>(List.of(-1));
        List<Valley> sorted = new ArrayList<>(coming);
        sorted.sort((a, b) -> a.number - b.number);
        tryOrders(new ArrayList<>(), sorted, best);
        return best;
    }

    private void tryOrders(List<Valley> chosen, List<Valley> left, List<Integer> best) {
        if (left.isEmpty()) {
            Model m = twin();
            m.coming = new ArrayList<>(chosen);
            int arrivals = m.arrivals();
            if (arrivals > best.get(0)) {
                best.clear();
                best.add(arrivals);
                chosen.forEach(v -> best.add(v.number));
            }
        }
        for (Valley v : left) {
            List<Valley> more = new ArrayList<>(chosen);
            more.add(v);
            List<Valley> less = new ArrayList<>(left);
            less.remove(v);
            tryOrders(more, less, best);
        }
    }

    /** The set to keep so that m arrive, by size and then by number; NONE. */
    int keepFor(int m) {
        for (int size = 0; size <= 6; size++) {
            for (int set = 0; set < 64; set++) {
                if (Integer.bitCount(set) == size && mayKeep(set) && keeping(set).arrivals() >= m) {
                    return set;
                }
            }
        }
        return ThirtyBirds.NONE;
    }

    private boolean mayKeep(int set) {
        for (int bird = 0; bird < 6; bird++) {
            if ((set >> bird) % 2 == 1 && (!isFlying(bird) || birds.get(bird).kept)) {
                return false;
            }
        }
        return true;
    }

    private Model keeping(int set) {
        Model m = twin();
        for (int bird = 0; bird < birds.size(); bird++) {
            m.birds.get(bird).kept |= (set >> bird) % 2 == 1;
        }
        return m;
    }

    /** Which bird to feed, and how many arrive then. */
    int[] meal() {
        int[] best = {ThirtyBirds.NONE, ThirtyBirds.NONE};
        for (int bird = birds.size() - 1; bird >= 0; bird--) {
            if (isFlying(bird)) {
                int arrivals = twin().fed(bird).arrivals();
                if (arrivals >= best[1]) {
                    best[0] = bird;
                    best[1] = arrivals;
                }
            }
        }
        return best;
    }

    int catches(int bird) {
        int fewer = 0;
        int with = arrive();
        int without = twin().turnBack(bird).arrive();
        for (int other = 0; other < birds.size(); other++) {
            if (other != bird) {
                fewer += (with >> other & 1) - (without >> other & 1);
            }
        }
        return fewer;
    }

    int[] beloved() {
        int[] best = {ThirtyBirds.NONE, ThirtyBirds.NONE};
        for (int loved = birds.size() - 1; loved >= 0; loved--) {
            int lovers = 0;
            for (int bird = 0; bird < birds.size(); bird++) {
                lovers += bird != loved && isFlying(bird) && birds.get(bird).loves == loved ? 1 : 0;
            }
            if (lovers > 0 && lovers >= best[1]) {
                best[0] = loved;
                best[1] = lovers;
            }
        }
        return best;
    }

    boolean isSo(int[] row) {
        Model m = twin();
        boolean so = true;
        for (int flying : row) {
            so &= m.flyOne().flying() == flying;
        }
        return so;
    }

    int sorts(int bird, int[] row) {
        int set = 0;
        for (int i = 0; i < SORTS.length(); i++) {
            Model m = twin();
            m.birds.get(bird).sort = SORTS.charAt(i);
            set += m.isSo(row) ? 2 << i : 0;
        }
        return set;
    }

    int leaving(int bird, int[] row) {
        int set = 0;
        for (int leaves = 0; leaves <= 6; leaves++) {
            Model m = twin();
            m.birds.get(bird).leaves = leaves;
            set += m.isSo(row) ? 1 << leaves : 0;
        }
        return set;
    }

    int asked(int[] row) {
        int set = 0;
        for (int asks = 0; asks <= 20; asks++) {
            Model m = twin();
            Valley v = m.coming.get(0);
            m.coming.set(0, new Valley(v.number, asks, v.loss));
            set += m.isSo(row) ? 1 << asks : 0;
        }
        return set;
    }

    int[] storm(int m, int c) {
        int flying = Integer.bitCount(flying());
        BigInteger below = BigInteger.TEN.pow(flying);
        BigInteger above = stormFrom(0, m, c);
        BigInteger common = above.gcd(below);
        return new int[] {above.divide(common).intValueExact(), below.divide(common).intValueExact()};
    }

    private BigInteger stormFrom(int bird, int m, int c) {
        if (bird == birds.size()) {
            return arrivals() >= m ? BigInteger.ONE : BigInteger.ZERO;
        }
        if (!isFlying(bird)) {
            return stormFrom(bird + 1, m, c);
        }
        Model hit = twin();
        Bird b = hit.birds.get(bird);
        b.strong = Math.max(0, b.strong - 5);
        BigInteger ifHit = hit.stormFrom(bird + 1, m, c).multiply(BigInteger.valueOf(c));
        return ifHit.add(stormFrom(bird + 1, m, c).multiply(BigInteger.valueOf(10 - c)));
    }

    int[] drawn(int n, int seed) {
        BigInteger x = BigInteger.valueOf(seed);
        BigInteger prime = BigInteger.ONE.shiftLeft(31).subtract(BigInteger.ONE);
        int[] told = {0, 0};
        for (int i = 0; i < n; i++) {
            x = x.multiply(BigInteger.valueOf(16807)).mod(prime);
            Model m = twin();
            if (!birds.isEmpty()) {
                int bird = x.mod(BigInteger.valueOf(birds.size())).intValueExact();
                int rest = x.mod(BigInteger.valueOf(3)).intValueExact();
                if (rest == 0 && m.isFlying(bird)) {
                    m.turnBack(bird);
                }
                if (rest == 1) {
                    m.fed(bird);
                }
            }
            told[0] += m.arrivals();
            told[1] += m.arrivals() > 0 ? 1 : 0;
        }
        return told;
    }
}
