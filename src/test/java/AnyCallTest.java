import java.lang.reflect.InvocationTargetException;
import java.lang.reflect.Method;
import java.lang.reflect.Modifier;
import java.util.ArrayList;
import java.util.Arrays;
import java.util.Comparator;
import java.util.List;
import java.util.Random;
import java.util.Set;

/** Any calls with any numbers: none throws, the same answer the same, what is refused or foretold changes nothing. */
public final class AnyCallTest {
    private static final int[] NUMBERS = {-1, -2, 0, 1, 2, 3, 4, 5, 6, 7, 8, 10, 39, 40, 41, 63, 255, 256, 999999,
        1000000, Integer.MIN_VALUE, Integer.MIN_VALUE + 1, Integer.MAX_VALUE, Integer.MAX_VALUE - 1};
    private static final String[] TEXTS = {"", "f4;v6,3;v9,2;v3,5;v12,1;h20,2,1;d18,0,0;o15,3,1;n14,1,0;p9,0,5;h7,6,3;",
        "f0;v0,0;", "f9;v1,1;h3,0,0;", "f5;v3,2;v4,1;v5,0;v6,1;v2,2;d30,1,1;n20,2,0;p25,0,1;", "f1;v1,1;h", "f77;",
        "f3;v5,1;v5,1;o30,6,5;d30,5,4;h28,1,3;p20,0,2;n22,2,1;n21,3,0;"};
    private static final Set<String> FORETOLD = Set.of("arrive", "where", "strength", "order", "toKeep", "whole",
        "meal", "catches", "beloved", "fits", "asked", "storm", "drawn", "kind", "as", "trace", "count", "status",
        "fault", "bird", "valley", "image");
    private static final Check CHECK = new Check();
    private static final Random DRAWS = new Random(2026);

    /** One call: a method of the face with its numbers. */
    record Call(Method method, Object[] numbers) {
        int on(ThirtyBirds x) {
            try {
                return (Integer) method.invoke(x, numbers);
            } catch (InvocationTargetException thrown) {
                CHECK.holds(this + " threw " + thrown.getCause(), false);
                return 0;
            } catch (IllegalAccessException hidden) {
                throw new IllegalStateException(hidden);
            }
        }

        @Override
        public String toString() {
            return method.getName() + Arrays.toString(numbers);
        }
    }

    public static void main(String[] args) throws NoSuchMethodException {
        List<Method> face = new ArrayList<>();
        for (Method method : ThirtyBirds.class.getDeclaredMethods()) {
            if (Modifier.isPublic(method.getModifiers())) {
                face.add(method);
            }
        }
        // Reflection tells methods in no order; the draws must be the same each time.
        face.sort(Comparator.comparing(Method::getName));
        for (int i = 0; i < 4000; i++) {
            CHECK.part("run " + i);
            List<Call> calls = anyCalls(face, 20 + DRAWS.nextInt(180));
            runTwice(calls);
        }
        CHECK.end();
    }

    private static List<Call> anyCalls(List<Method> face, int n) throws NoSuchMethodException {
        Method feed = ThirtyBirds.class.getMethod("feed", int.class);
        Method flight = ThirtyBirds.class.getMethod("flight");
        List<Call> calls = new ArrayList<>();
        while (calls.size() < n) {
            if (calls.isEmpty() || DRAWS.nextInt(60) == 0) {
                for (char letter : TEXTS[DRAWS.nextInt(TEXTS.length)].toCharArray()) {
                    calls.add(new Call(feed, new Object[] {(int) letter}));
                }
                calls.add(new Call(flight, new Object[0]));
            }
            Method method = face.get(DRAWS.nextInt(face.size()));
            calls.add(new Call(method, anyNumbers(method.getParameterCount())));
        }
        return calls;
    }

    private static Object[] anyNumbers(int n) {
        Object[] numbers = new Object[n];
        for (int i = 0; i < n; i++) {
            numbers[i] = DRAWS.nextInt(4) == 0 ? NUMBERS[DRAWS.nextInt(NUMBERS.length)] : DRAWS.nextInt(5);
        }
        return numbers;
    }

    private static void runTwice(List<Call> calls) {
        ThirtyBirds ahead = new ThirtyBirds();
        ThirtyBirds x = new ThirtyBirds();
        int last = calls.size() - 1;
        for (Call call : calls.subList(0, last)) {
            CHECK.due(call + " of the same calls", call.on(ahead), call.on(x));
        }
        Call call = calls.get(last);
        int answer = call.on(x);
        boolean isRefused = answer <= ThirtyBirds.BAD && !call.method.getName().equals("flight")
            && !call.method.getName().equals("set");
        if (isRefused || FORETOLD.contains(call.method.getName())) {
            boolean isSame = Check.seen(x).equals(Check.seen(ahead));
            CHECK.holds(call + ", that answered " + answer + ", changes nothing", isSame);
        }
    }
}
