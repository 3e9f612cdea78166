import java.util.function.Supplier;

/** Looks at all that an object holds, also at what only later calls tell: acts, images, the tape, rows. */
final class Probe {
    private static final int READ_ITEMS = 4;

    private Probe() { }

    /** Each look takes an object of its own, made by the same calls, and may change it; status() is left out. */
    static String all(Supplier<ThirtyBirds> made) {
        return Check.seen(made.get()) + "\nacts " + acts(made.get()) + "\nimages " + images(made.get())
            + "\ntape " + tape(made.get()) + "\nrows " + rows(made.get());
    }

    private static String acts(ThirtyBirds x) {
        StringBuilder s = new StringBuilder();
        for (int i = 0; i < 25 && x.undo() != ThirtyBirds.STATE; i++) {
            s.append(flight(x)).append(" / ");
        }
        return s.append(laws(x)).toString();
    }

    /** What is told of the flight alone: without rows, acts, the tape, the trace, the fault. */
    private static String flight(ThirtyBirds x) {
        StringBuilder s = new StringBuilder();
        for (int what = 1; what <= 5; what++) {
            s.append(x.count(what)).append(' ');
        }
        for (int bird = 0; bird < x.count(2); bird++) {
            s.append(x.bird(bird, 0)).append(x.bird(bird, 4) == 1 ? "kept " : " ");
        }
        for (int valley = 0; valley < x.count(1); valley++) {
            s.append(x.valley(valley, 2)).append(' ');
        }
        return s.toString();
    }

    private static String laws(ThirtyBirds x) {
        return "eat " + x.eat(0) + " arrive " + x.arrive();
    }

    private static String images(ThirtyBirds x) {
        StringBuilder s = new StringBuilder();
        for (int k = 0; k < 2; k++) {
            s.append(x.restore(k)).append(' ').append(Check.seen(x)).append(laws(x)).append(" / ");
        }
        return s.toString();
    }

    private static String tape(ThirtyBirds x) {
        return x.count(7) + " " + x.flight() + " " + x.fault() + " " + Check.seen(x) + laws(x);
    }

    private static String rows(ThirtyBirds x) {
        StringBuilder s = new StringBuilder();
        x.flight();
        Check.tell(x, Check.READER);
        for (int row = 0; row < 8; row++) {
            for (int i = 0; i < READ_ITEMS; i++) {
                s.append(x.asked(row, i, 1)).append(' ');
            }
            for (int other = 0; other < row; other++) {
                s.append(x.copy(row, 0, other, 0, 0)).append(' ');
            }
            s.append(x.set(row, 0, 40000)).append(" / ");
        }
        for (int row = 0; row < 8; row++) {
            s.append(x.drop(row)).append(' ');
        }
        return s.toString();
    }
}
