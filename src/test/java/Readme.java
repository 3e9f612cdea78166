import java.io.IOException;
import java.nio.file.Files;
import java.nio.file.Path;
import java.util.ArrayList;
import java.util.List;
import java.util.regex.Matcher;
import java.util.regex.Pattern;

/** The example of README.md: its pieces of Java, line by line; main prints them as a program that holds each answer. */
final class Readme {
    static final Path PAGE = Path.of("README.md");
    private static final Pattern TOLD_CALL = Pattern.compile("(\\w+\\.\\w+\\([^;]*\\)); +// (-?\\d+): .+");

    /** Only of a line that is a call and tells its answer are there the call and the answer. */
    record Line(String code, String call, String answer) {
        boolean tellsAnswer() {
            return answer != null;
        }
    }

    private Readme() { }

    public static void main(String[] args) throws IOException {
        System.out.println("public final class ReadmeExample {");
        System.out.println("    public static void main(String[] args) {");
        System.out.println("        Check check = new Check();");
        System.out.println("        check.part(\"README.md\");");
        for (Line line : lines()) {
            System.out.println("        " + (line.tellsAnswer() ? held(line) : line.code));
        }
        System.out.println("        check.end();");
        System.out.println("    }");
        System.out.println("}");
    }

    private static String held(Line line) {
        return "check.due(\"" + line.call + "\", " + line.call + ", " + line.answer + ");";
    }

    static List<Line> lines() throws IOException {
        List<Line> lines = new ArrayList<>();
        boolean isJava = false;
        for (String line : Files.readAllLines(PAGE)) {
            if (line.startsWith("```")) {
                isJava = line.equals("```java");
            } else if (isJava) {
                Matcher call = TOLD_CALL.matcher(line);
                boolean tells = call.matches();
                lines.add(new Line(line, tells ? call.group(1) : null, tells ? call.group(2) : null));
            }
        }
        return lines;
    }
}
