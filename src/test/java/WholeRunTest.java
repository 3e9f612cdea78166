import java.lang.reflect.Method;
import java.lang.reflect.Modifier;
import java.util.ArrayList;
import java.util.Arrays;
import java.util.List;
import java.util.Map;
import java.util.Random;
import java.util.TreeMap;

/** Runs of 512 calls, any of the face, each answer held against the WholeModel: so what one call leaves to others is seen. */
public final class WholeRunTest {
    private static final int CALLS = 512;
    private static final int[] EDGES = {Integer.MIN_VALUE, -1, 6, 7, 8, 40, 41, 255, 256, 1000000, Integer.MAX_VALUE};
    /** The least and the most of what is drawn for each number of a call; else they are 0 and 5. */
    private static final Map<String, int[]> DRAWN = Map.ofEntries(
        Map.entry("row", new int[] {0, 3, 0, 2, -1, 8}), Map.entry("set", new int[] {0, 3, 0, 6, -70000, 70000}),
        Map.entry("copy", new int[] {0, 3, 0, 5, 0, 3, 0, 5, -1, 5}), Map.entry("drop", new int[] {0, 7}),
        Map.entry("feed", new int[] {-1, 256}), Map.entry("keep", new int[] {0, 5, 0, 1}),
        Map.entry("order", new int[] {-1, 4}), Map.entry("toKeep", new int[] {0, 1}),
        Map.entry("whole", new int[] {0, 6, 0, 1}), Map.entry("meal", new int[] {0, 1}),
        Map.entry("beloved", new int[] {0, 1}), Map.entry("fits", new int[] {0, 5, 0, 3, 0, 3, 1, 3, 0, 1}),
        Map.entry("asked", new int[] {0, 3, 0, 3, 1, 3}), Map.entry("storm", new int[] {0, 6, 0, 10, 0, 1}),
        Map.entry("drawn", new int[] {0, 40, 1, 999999, 0, 1}), Map.entry("image", new int[] {0, 1}),
        Map.entry("restore", new int[] {0, 1}), Map.entry("ask", new int[] {0, 5, 0, 1}),
        Map.entry("trace", new int[] {-1, 7}), Map.entry("count", new int[] {-1, 8}));
    private static final String[] OFTEN = {"fly", "fly", "call", "call", "call", "eat", "keep", "undo", "swap", "status"};

    private static final Check CHECK = new Check();
    private static final Random DRAWS = new Random(512);
    private static final Map<String, Method> FACE = face();
    private static final List<String> NAMES = new ArrayList<>(FACE.keySet());

    private final ThirtyBirds x = new ThirtyBirds();
    private final WholeModel model = new WholeModel();
    private int calls = 0;

    public static void main(String[] args) throws ReflectiveOperationException {
        NAMES.addAll(Arrays.asList(OFTEN));
        NAMES.remove("flight");
        for (int run = 0; run < 250; run++) {
            CHECK.part("run " + run);
            new WholeRunTest().run();
        }
        CHECK.end();
    }

    private static Map<String, Method> face() {
        Map<String, Method> face = new TreeMap<>();
        for (Method method : ThirtyBirds.class.getDeclaredMethods()) {
            if (Modifier.isPublic(method.getModifiers())) {
                face.put(method.getName(), method);
            }
        }
        return face;
    }

    private static int between(int least, int most) {
        return least + DRAWS.nextInt(most - least + 1);
    }

    private void run() throws ReflectiveOperationException {
        while (calls < CALLS) {
            int draw = DRAWS.nextInt(100);
            if (draw == 0 || draw < 15 && model.flight == null) {
                tell(anyText());
            } else if (draw < 4 && model.flight != null && !model.flight.coming.isEmpty()) {
                askOfRow();
            } else {
                anyCall(NAMES.get(DRAWS.nextInt(NAMES.size())));
            }
        }
    }

    private void call(String name, int... numbers) throws ReflectiveOperationException {
        if (calls == CALLS) {
            return;
        }
        calls++;
        int answer = (int) FACE.get(name).invoke(x, Arrays.stream(numbers).boxed().toArray());
        CHECK.due("call " + calls + ", " + name + Arrays.toString(numbers), answer, model.answer(name, numbers));
    }

    private void anyCall(String name) throws ReflectiveOperationException {
        int[] numbers = new int[FACE.get(name).getParameterCount()];
        int[] drawn = DRAWN.getOrDefault(name, new int[] {0, 5, 0, 5});
        for (int k = 0; k < numbers.length; k++) {
            boolean isEdge = DRAWS.nextInt(16) == 0;
            numbers[k] = isEdge ? EDGES[DRAWS.nextInt(EDGES.length)] : between(drawn[2 * k], drawn[2 * k + 1]);
        }
        call(name, numbers);
    }

    private void tell(String text) throws ReflectiveOperationException {
        for (int i = 0; i < text.length(); i++) {
            call("feed", text.charAt(i));
        }
        call("flight");
        call("fault");
    }

    private static String anyText() {
        StringBuilder s = new StringBuilder("f" + between(0, 9) + ";");
        int valleys = between(1, DRAWS.nextInt(8) == 0 ? 6 : 5);
        int birds = between(0, DRAWS.nextInt(8) == 0 ? 7 : 6);
        for (int i = 0; i < valleys; i++) {
            s.append("v" + between(0, DRAWS.nextBoolean() ? 9 : 20) + "," + between(0, 6) + ";");
        }
        for (int i = 0; i < birds; i++) {
            char sort = Model.SORTS.charAt(DRAWS.nextInt(5));
            s.append(sort + "" + between(0, 30) + "," + between(0, 6) + "," + between(0, 5) + ";");
        }
        String others = "fvhdonpx0123456789,;A \u00ff";
        for (int spoilt = DRAWS.nextInt(6); spoilt < 2; spoilt++) {
            int place = DRAWS.nextInt(s.length());
            char other = others.charAt(DRAWS.nextInt(others.length()));
            s.replace(place, place + DRAWS.nextInt(2), DRAWS.nextBoolean() ? "" : "" + other);
        }
        return s.toString();
    }

    /** A row of what would be flown: so fits() and asked() find something. */
    private void askOfRow() throws ReflectiveOperationException {
        int row = between(0, 3);
        int n = between(1, model.flight.coming.size());
        Model flown = model.flight.twin();
        call("row", row, between(0, 2), n + between(0, 2));
        for (int i = 0; i < n; i++) {
            call("set", row, i, flown.flyOne().flying());
        }
        for (int what = 0; what < 2; what++) {
            call("fits", between(0, 5), row, 0, n, what);
        }
        call("asked", row, 0, n);
        call("status");
    }
}
