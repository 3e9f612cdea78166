import java.io.IOException;
import java.lang.reflect.Field;
import java.lang.reflect.Method;
import java.lang.reflect.Modifier;
import java.nio.file.Files;
import java.util.Set;
import java.util.TreeSet;
import java.util.regex.Matcher;
import java.util.regex.Pattern;

/** README.md shows every call, each with its answer, and tells the constants; the answers are held by the example. */
public final class ReadmeTest {
    private static final Pattern CALL = Pattern.compile("\\b[xy]\\.(\\w+)\\(");
    private static final Check CHECK = new Check();

    public static void main(String[] args) throws ReflectiveOperationException, IOException {
        calls();
        constants(Files.readString(Readme.PAGE));
        CHECK.end();
    }

    private static void calls() throws IOException {
        CHECK.part("README.md, calls");
        Set<String> shown = new TreeSet<>();
        int answers = 0;
        for (Readme.Line line : Readme.lines()) {
            Matcher calls = CALL.matcher(line.code());
            while (calls.find()) {
                shown.add(calls.group(1));
            }
            boolean beginsWithCall = CALL.matcher(line.code()).lookingAt();
            CHECK.holds("an answer is told: " + line.code(), line.tellsAnswer() || !beginsWithCall);
            answers += line.tellsAnswer() ? 1 : 0;
        }
        CHECK.holds("answers are found", answers > 50);
        for (Method method : ThirtyBirds.class.getDeclaredMethods()) {
            if (Modifier.isPublic(method.getModifiers())) {
                CHECK.holds(method.getName() + " is shown", shown.contains(method.getName()));
            }
        }
    }

    private static void constants(String page) throws ReflectiveOperationException {
        CHECK.part("README.md, constants");
        int constants = 0;
        for (Field field : ThirtyBirds.class.getFields()) {
            String told = "`" + field.getName() + "` " + field.getInt(null) + " ";
            CHECK.holds("told: " + told, page.contains(told));
            constants++;
        }
        CHECK.due("constants", constants, 4);
        for (int finding = 1; finding <= 5; finding++) {
            String told = "| " + (-1000010 - finding) + " | FINDING " + finding + ", ";
            CHECK.holds("told: " + told, page.contains(told));
        }
        CHECK.holds("512 calls", page.contains("at most 512 calls"));
    }
}
