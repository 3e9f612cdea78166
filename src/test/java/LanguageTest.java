import java.io.IOException;
import java.lang.reflect.Constructor;
import java.lang.reflect.Field;
import java.lang.reflect.Method;
import java.lang.reflect.Modifier;
import java.nio.file.Files;
import java.nio.file.Path;
import java.util.Set;
import java.util.TreeSet;
import java.util.regex.Matcher;
import java.util.regex.Pattern;

/** The face of the class, and the rules of LANGUAGE.md that can be seen from outside or in the text of the program. */
public final class LanguageTest {
    private static final Path PROGRAM = Path.of("src/main/java/ThirtyBirds.java");
    private static final String FACE = "row3 set3 copy5 drop1 feed1 flight0 fault0 fly0 eat1 keep2 call1 swap0 undo0 "
        + "bird2 valley2 arrive0 where1 strength2 order1 toKeep1 whole2 meal1 catches1 beloved1 fits5 asked3 storm3 "
        + "drawn3 image1 restore1 kind1 as2 ask2 trace1 count1 status0";
    private static final String[] RULED_OUT = {"throw", "throws", "try", "catch", "synchronized", "assert", "import",
        "package", "double", "float", "native", "volatile", "transient", "protected", "Object", "Thread",
        "System\\.(?!arraycopy)\\w+",
        "Math\\.\\w+Exact", "String", "record", "->", "::", "new \\w+\\([^)]*\\) *\\{"};
    private static final Check CHECK = new Check();

    public static void main(String[] args) throws IOException {
        face();
        classesInside();
        String text = withoutComments(Files.readString(PROGRAM));
        words(text);
        methods(text);
        CHECK.end();
    }

    private static void face() {
        CHECK.part("the face");
        Set<String> found = new TreeSet<>();
        for (Method method : ThirtyBirds.class.getDeclaredMethods()) {
            if (Modifier.isPublic(method.getModifiers())) {
                found.add(method.getName() + method.getParameterCount());
                CHECK.holds(method + " answers an int", method.getReturnType() == int.class);
                CHECK.holds(method + " is of an object", !Modifier.isStatic(method.getModifiers()));
            } else {
                CHECK.holds(method + " is private", Modifier.isPrivate(method.getModifiers()));
            }
        }
        CHECK.holds("methods are " + found, found.equals(new TreeSet<>(Set.of(FACE.split(" ")))));
        Set<String> constants = new TreeSet<>();
        for (Field field : ThirtyBirds.class.getDeclaredFields()) {
            if (Modifier.isPublic(field.getModifiers())) {
                constants.add(field.getName());
            } else {
                CHECK.holds(field + " is private", Modifier.isPrivate(field.getModifiers()));
            }
        }
        CHECK.holds("constants are " + constants, constants.equals(Set.of("NONE", "BAD", "STATE", "FULL")));
        Constructor<?>[] constructors = ThirtyBirds.class.getDeclaredConstructors();
        CHECK.due("constructors", constructors.length, 1);
        CHECK.due("numbers of the constructor", constructors[0].getParameterCount(), 0);
        CHECK.holds("the class is public and final", (ThirtyBirds.class.getModifiers() & ~Modifier.STATIC)
            == (Modifier.PUBLIC | Modifier.FINAL));
    }

    private static void classesInside() {
        CHECK.part("classes inside");
        CHECK.holds("some twelve at most", ThirtyBirds.class.getDeclaredClasses().length < 12);
        fieldsOf(ThirtyBirds.class);
        for (Class<?> inside : ThirtyBirds.class.getDeclaredClasses()) {
            CHECK.holds(inside + " is static", Modifier.isStatic(inside.getModifiers()));
            fieldsOf(inside);
            for (Method method : inside.getDeclaredMethods()) {
                CHECK.holds(method + " takes seven at most", method.getParameterCount() <= 7);
                CHECK.holds(method + " has no name of the face", !isOfFace(method.getName()));
            }
        }
    }

    private static boolean isOfFace(String name) {
        for (String method : FACE.split(" ")) {
            if (method.substring(0, method.length() - 1).equals(name)) {
                return true;
            }
        }
        return false;
    }

    private static void fieldsOf(Class<?> type) {
        int own = 0;
        for (Field field : type.getDeclaredFields()) {
            boolean isStatic = Modifier.isStatic(field.getModifiers());
            own += isStatic ? 0 : 1;
            CHECK.holds(field + " is final, if static", !isStatic || Modifier.isFinal(field.getModifiers()));
        }
        CHECK.holds(type + " has some twenty fields at most", own <= 20);
    }

    /** Literals go too, so that a letter is no word. */
    private static String withoutComments(String text) {
        return text.replaceAll("(?s)/\\*.*?\\*/", "").replaceAll("//[^\n]*", "").replaceAll("'.'", "0");
    }

    private static void words(String text) {
        CHECK.part("words that are ruled out");
        for (String word : RULED_OUT) {
            String whole = Character.isLetter(word.charAt(0)) ? "\\b" + word + "\\b" : word;
            Matcher matcher = Pattern.compile(whole).matcher(text);
            CHECK.holds("no " + word, !matcher.find());
        }
    }

    /** A method is what opens at depth 1 or 2 with its parameters in the line. */
    private static void methods(String text) {
        CHECK.part("methods stay short");
        int depth = 0;
        int start = 0;
        int startDepth = -1;
        int methods = 0;
        String[] lines = text.split("\n");
        for (int i = 0; i < lines.length; i++) {
            String line = lines[i];
            boolean opens = line.endsWith("{") && line.contains("(") && !line.contains(" class ");
            if (startDepth < 0 && opens && depth <= 2) {
                startDepth = depth;
                start = i;
                methods++;
            }
            depth += line.replace("}", "").length() - line.replace("{", "").length();
            if (startDepth >= 0 && depth == startDepth) {
                CHECK.holds(lines[start].trim() + " has sixty lines at most", i - start < 60);
                startDepth = -1;
            }
        }
        CHECK.holds("methods are found", methods > 60);
    }
}
