import java.io.IOException;
import java.lang.reflect.Method;
import java.lang.reflect.Modifier;
import java.nio.file.Files;
import java.nio.file.Path;
import java.util.ArrayList;
import java.util.List;
import java.util.regex.Matcher;
import java.util.regex.Pattern;

/**
 * Makes a test, the class ReadmeRun, of the Java that README.md shows: once as it stands there, to show that
 * it compiles, and once call by call, each held against the answer that stands behind it. The arguments are
 * README.md, and the file to write.
 */
public final class ReadmeCalls {
    interface Shown {
        Object answer();
    }

    private static final String OPEN = "```java";
    private static final String CLOSE = "```";
    private static final Pattern OBJECT = Pattern.compile("Gaitwright \\w+ = new Gaitwright\\(\\);");
    private static final Pattern CALL =
            Pattern.compile("(\\S.*\\));\\s+// (-?\\d+(?:\\.\\d+)?|true|false|throws \\w+)(?:: \\S.*)?");
    private static final Pattern SPAN = Pattern.compile("`(\\w+)\\(([^`]*)\\)`");

    private ReadmeCalls() { }

    public static void main(String[] args) throws IOException {
        List<String> lines = Files.readAllLines(Path.of(args[0]));
        StringBuilder shown = new StringBuilder();
        StringBuilder run = new StringBuilder();
        List<String> faults = new ArrayList<>();
        boolean isJava = false;
        for (int i = 0; i < lines.size(); i++) {
            String line = lines.get(i);
            if (isJava && !line.equals(CLOSE)) {
                shown.append(line).append('\n');
                run.append(checked(i + 1, line.strip(), faults));
            } else if (line.startsWith(CLOSE)) {
                if (!isJava && !line.equals(OPEN)) {
                    faults.add("line " + (i + 1) + ": " + line);
                }
                isJava = !isJava;
            } else {
                lookAtSpans(i + 1, line, faults);
            }
        }
        lookForAll(shown.toString(), faults);
        faults.forEach(fault -> System.out.println("README.md: " + fault));
        Files.writeString(Path.of(args[1]), "final class ReadmeRun {\n"
                + "static void asShown() {\n" + shown + "}\n\n"
                + "public static void main(String[] args) {\nCheck.part(\"README.md\");\n" + run + "Check.end();\n}\n}\n");
        System.exit(faults.isEmpty() ? 0 : 1);
    }

    /** A line of the page as a line of the test. */
    private static String checked(int number, String line, List<String> faults) {
        if (line.isEmpty() || OBJECT.matcher(line).matches()) {
            return line + "\n";
        }
        Matcher call = CALL.matcher(line);
        if (!call.matches()) {
            faults.add("line " + number + " is no call with its answer: " + line);
            return "";
        }
        String name = "line " + number + ", " + call.group(1);
        return "Check.due(\"" + name.replace("\"", "'") + "\", \"" + call.group(2) + "\", ReadmeCalls.answerOf(() -> "
                + call.group(1) + "));\n";
    }

    /** That what the text around the examples names with arguments is a method of the face, with as many. */
    private static void lookAtSpans(int number, String line, List<String> faults) {
        Matcher span = SPAN.matcher(line);
        while (span.find()) {
            int arguments = span.group(2).isBlank() ? 0 : span.group(2).split(",").length;
            boolean isFace = false;
            for (Method m : Gaitwright.class.getDeclaredMethods()) {
                isFace |= Modifier.isPublic(m.getModifiers()) && m.getName().equals(span.group(1))
                        && m.getParameterCount() == arguments;
            }
            if (!isFace) {
                faults.add("line " + number + ": there is no " + span.group());
            }
        }
    }

    private static void lookForAll(String shown, List<String> faults) {
        for (Method m : Gaitwright.class.getDeclaredMethods()) {
            if (Modifier.isPublic(m.getModifiers()) && !shown.contains("." + m.getName() + "(")) {
                faults.add(m.getName() + " is not shown");
            }
        }
    }

    static String answerOf(Shown shown) {
        try {
            return String.valueOf(shown.answer());
        } catch (RuntimeException | Error e) {
            return "throws " + e.getClass().getSimpleName();
        }
    }
}
