import java.util.List;
import java.util.Random;

/** All that is flown and foretold (promises 9 to 31), on many flights, against the Model. */
public final class ModelTest {
    private static final int NONE = ThirtyBirds.NONE;
    private static final Check CHECK = new Check();
    private static final Random DRAWS = new Random(30);

    public static void main(String[] args) {
        for (int i = 0; i < 1500; i++) {
            Model m = anyFlight();
            ThirtyBirds x = new ThirtyBirds();
            CHECK.part("flight " + i + ", " + m.text());
            due("flight()", Check.tell(x, m.text()), m.birds.size());
            int acts = DRAWS.nextInt(12);
            for (int k = 0; k < acts; k++) {
                act(x, m);
            }
            stateIs(x, m);
            foretoldIs(x, m);
            setsAre(x, m);
            rowsFit(x, m);
            chancesAre(x, m);
            stateIs(x, m);
        }
        CHECK.end();
    }

    private static void due(String call, int got, int want) {
        CHECK.due(call, got, want);
    }

    private static Model anyFlight() {
        Model m = new Model();
        m.feed = DRAWS.nextInt(10);
        int valleys = 1 + DRAWS.nextInt(5);
        for (int i = 0; i < valleys; i++) {
            m.coming.add(new Model.Valley(i, DRAWS.nextInt(DRAWS.nextBoolean() ? 9 : 21), DRAWS.nextInt(7)));
        }
        int birds = DRAWS.nextInt(7);
        for (int i = 0; i < birds; i++) {
            char sort = Model.SORTS.charAt(DRAWS.nextInt(5));
            int strong = DRAWS.nextInt(4) == 0 ? DRAWS.nextInt(12) : 12 + DRAWS.nextInt(19);
            m.birds.add(new Model.Bird(sort, strong, DRAWS.nextInt(7), DRAWS.nextInt(6)));
        }
        return m;
    }

    private static void act(ThirtyBirds x, Model m) {
        int bird = m.birds.isEmpty() ? 0 : DRAWS.nextInt(m.birds.size());
        switch (DRAWS.nextInt(5)) {
            case 0 -> due("fly()", x.fly(), m.coming.isEmpty() ? ThirtyBirds.STATE : m.flyOne().flying());
            case 1 -> actOn(x, m, bird);
            case 2 -> callBack(x, m, bird);
            case 3 -> swap(x, m);
            default -> actAndUndo(x, m);
        }
    }

    private static void actOn(ThirtyBirds x, Model m, int bird) {
        if (m.birds.isEmpty()) {
            due("eat(0)", x.eat(0), ThirtyBirds.BAD);
        } else if (DRAWS.nextBoolean()) {
            due("eat(" + bird + ")", x.eat(bird), m.fed(bird).birds.get(bird).strong);
        } else {
            Model.Bird b = m.birds.get(bird);
            b.kept = !b.kept;
            int kept = 0;
            for (int i = 0; i < m.birds.size(); i++) {
                kept |= m.birds.get(i).kept ? 1 << i : 0;
            }
            due("keep(" + bird + ")", x.keep(bird, b.kept ? 1 : 0), kept);
        }
    }

    private static void callBack(ThirtyBirds x, Model m, int bird) {
        if (bird < m.birds.size()) {
            boolean flew = m.isFlying(bird);
            m.birds.get(bird).flies = true;
            due("call(" + bird + ")", x.call(bird), flew ? ThirtyBirds.STATE : m.flying());
        }
    }

    private static void swap(ThirtyBirds x, Model m) {
        if (m.coming.size() < 2) {
            due("swap()", x.swap(), ThirtyBirds.STATE);
        } else {
            m.coming.add(1, m.coming.remove(0));
            due("swap()", x.swap(), m.coming.get(0).number());
        }
    }

    private static void actAndUndo(ThirtyBirds x, Model m) {
        int acts = x.count(6);
        if (!m.coming.isEmpty()) {
            due("fly(), undone then", x.fly(), m.twin().flyOne().flying());
            due("undo()", x.undo(), acts);
        }
    }

    private static void stateIs(ThirtyBirds x, Model m) {
        due("count(3)", x.count(3), m.through);
        due("count(4)", x.count(4), m.flying());
        due("count(5)", x.count(5), m.turned);
        for (int bird = 0; bird < m.birds.size(); bird++) {
            Model.Bird b = m.birds.get(bird);
            due("bird(" + bird + ", 0)", x.bird(bird, 0), b.strong);
            due("bird(" + bird + ", 3)", x.bird(bird, 3), b.flies ? 1 : 0);
            due("bird(" + bird + ", 4)", x.bird(bird, 4), b.kept ? 1 : 0);
            due("bird(" + bird + ", 5)", x.bird(bird, 5), m.loss(b));
        }
        int place = 0;
        for (Model.Valley v : m.behind) {
            due("valley(" + v.number() + ", 2)", x.valley(v.number(), 2), place++);
        }
        for (Model.Valley v : m.coming) {
            due("valley(" + v.number() + ", 2)", x.valley(v.number(), 2), place++);
        }
    }

    private static void foretoldIs(ThirtyBirds x, Model m) {
        due("arrive()", x.arrive(), m.arrive());
        for (int bird = 0; bird < m.birds.size(); bird++) {
            due("where(" + bird + ")", x.where(bird), m.where(bird));
            int k = DRAWS.nextInt(6);
            due("strength(" + bird + ", " + k + ")", x.strength(bird, k), m.strength(bird, k));
            due("catches(" + bird + ")", x.catches(bird), m.isFlying(bird) ? m.catches(bird) : ThirtyBirds.STATE);
        }
        List<Integer> order = m.order();
        for (int k = -1; k < 5; k++) {
            due("order(" + k + ")", x.order(k), k + 1 < order.size() ? order.get(k + 1) : NONE);
        }
    }

    private static void setsAre(ThirtyBirds x, Model m) {
        int all = m.keepFor(Integer.bitCount(m.flying()));
        due("toKeep(0)", x.toKeep(0), Integer.bitCount(all));
        due("toKeep(1)", x.toKeep(1), all);
        for (int n = 0; n <= 6; n++) {
            int set = m.keepFor(n);
            due("whole(" + n + ", 0)", x.whole(n, 0), set == NONE ? NONE : Integer.bitCount(set));
            due("whole(" + n + ", 1)", x.whole(n, 1), set);
        }
        for (int what = 0; what < 2; what++) {
            due("meal(" + what + ")", x.meal(what), m.meal()[what]);
            due("beloved(" + what + ")", x.beloved(what), m.beloved()[what]);
        }
    }

    /** Rows of what was really flown, at times by a flight that is a little other. */
    private static void rowsFit(ThirtyBirds x, Model m) {
        if (m.coming.isEmpty()) {
            return;
        }
        Model flown = m.twin();
        int[] row = new int[1 + DRAWS.nextInt(m.coming.size())];
        int from = DRAWS.nextInt(4);
        if (!m.birds.isEmpty() && DRAWS.nextBoolean()) {
            Model.Bird b = flown.birds.get(DRAWS.nextInt(m.birds.size()));
            b.sort = Model.SORTS.charAt(DRAWS.nextInt(5));
            b.leaves = DRAWS.nextInt(7);
        }
        x.row(2, DRAWS.nextInt(3), from + row.length);
        for (int i = 0; i < row.length; i++) {
            row[i] = flown.flyOne().flying();
            x.set(2, from + i, row[i]);
        }
        for (int bird = 0; bird < m.birds.size(); bird++) {
            due("fits(" + bird + ", .., 0)", x.fits(bird, 2, from, row.length, 0), m.sorts(bird, row));
            due("fits(" + bird + ", .., 1)", x.fits(bird, 2, from, row.length, 1), m.leaving(bird, row));
        }
        due("asked()", x.asked(2, from, row.length), m.asked(row));
    }

    private static void chancesAre(ThirtyBirds x, Model m) {
        int least = DRAWS.nextInt(7);
        int c = DRAWS.nextInt(11);
        int n = DRAWS.nextInt(41);
        int seed = 1 + DRAWS.nextInt(999999);
        int[] storm = m.storm(least, c);
        int[] drawn = m.drawn(n, seed);
        for (int what = 0; what < 2; what++) {
            due("storm(" + least + ", " + c + ", " + what + ")", x.storm(least, c, what), storm[what]);
            due("drawn(" + n + ", " + seed + ", " + what + ")", x.drawn(n, seed, what), drawn[what]);
        }
    }
}
