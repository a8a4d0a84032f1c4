import java.io.IOException;
import java.lang.reflect.Method;
import java.lang.reflect.Modifier;
import java.nio.file.Files;
import java.nio.file.Path;
import java.util.ArrayList;
import java.util.List;
import java.util.regex.Matcher;
import java.util.regex.Pattern;

/** What README.md tells of the class holds. It is run in the project's folder. */
public final class ReadmeTest {
    private static final Path README = Path.of("README.md");
    private static final Path ITSELF = Path.of("src/test/java/ReadmeTest.java");
    private static final Pattern APPEND =
            Pattern.compile("\\| append `([^`]*)` \\| (-?\\d+) \\|.*");
    private static final Pattern CALL =
            Pattern.compile("\\| `(\\w+)\\(([-\\d, ]*)\\)` \\| (-?\\d+) \\|(.*)");
    private static final Pattern LINE = Pattern.compile("`([^`]+)`");
    private static final Checks CHECKS = new Checks();

    public static void main(String[] args) throws IOException, ReflectiveOperationException {
        List<String> readme = Files.readAllLines(README);
        exampleIsTheOneBelow(readme);
        CHECKS.dueText("the example", example(), "(M08;K&L07)");
        everyCallIsExplained(readme);
        run(readme);
        CHECKS.close("ReadmeTest");
    }

    private static String example() {
        CitationFormatter formatter = new CitationFormatter();
        String text = "work Ka Lb 07 t; work Ma 08 u;";
        for (int i = 0; i < text.length(); i++) {
            formatter.appendCharacter(text.charAt(i));
        }
        formatter.loadWorks();
        formatter.beginCitation(1);
        formatter.addToCitation(0);
        int length = formatter.renderedLength(0);
        StringBuilder line = new StringBuilder();
        for (int i = 0; i < length; i++) {
            line.append((char) formatter.renderedCharacter(0, i));
        }
        // line is "(M08;K&L07)"
        return line.toString();
    }

    private static void exampleIsTheOneBelow(List<String> readme) throws IOException {
        List<String> lines = new ArrayList<>();
        int start = readme.indexOf("```java");
        for (int i = start + 1; start >= 0 && !readme.get(i).equals("```"); i++) {
            lines.add("        " + readme.get(i));
        }
        String block = String.join("\n", lines);
        CHECKS.due("README.md has an example", lines.isEmpty() ? 0 : 1, 1);
        CHECKS.due("the example is the one that is tested",
                Files.readString(ITSELF).contains(block) ? 1 : 0, 1);
    }

    private static void everyCallIsExplained(List<String> readme) {
        for (Method method : CitationFormatter.class.getDeclaredMethods()) {
            if (Modifier.isPublic(method.getModifiers())) {
                String call = "`" + method.getName() + "(";
                CHECKS.due("a row for " + method.getName(),
                        readme.stream().anyMatch(row -> row.startsWith("|") && row.contains(call)
                                && !row.contains("append `")) ? 1 : 0, 1);
            }
        }
    }

    /** The rows whose call has numbers as arguments and whose answer is a number are the run. */
    private static void run(List<String> readme) throws ReflectiveOperationException {
        CitationFormatter formatter = new CitationFormatter();
        int rows = 0;
        for (String row : readme) {
            Matcher append = APPEND.matcher(row);
            Matcher call = CALL.matcher(row);
            if (append.matches()) {
                rows++;
                append(formatter, append.group(1), Integer.parseInt(append.group(2)));
            } else if (call.matches()) {
                rows++;
                CHECKS.due("README.md: " + row, answer(formatter, call.group(1), call.group(2)),
                        Integer.parseInt(call.group(3)));
                lineToldIsRendered(formatter, call.group(4));
            }
        }
        CHECKS.due("rows of the run", rows, 20);
    }

    private static void append(CitationFormatter formatter, String text, int due) {
        int answer = 0;
        for (int i = 0; i < text.length(); i++) {
            answer = formatter.appendCharacter(text.charAt(i));
        }
        CHECKS.due("README.md: append " + text, answer, due);
    }

    private static int answer(CitationFormatter formatter, String name, String arguments)
            throws ReflectiveOperationException {
        String[] words = arguments.isEmpty() ? new String[0] : arguments.split(", ");
        Class<?>[] types = new Class<?>[words.length];
        Object[] values = new Object[words.length];
        for (int i = 0; i < words.length; i++) {
            types[i] = int.class;
            values[i] = Integer.valueOf(words[i]);
        }
        return (Integer) CitationFormatter.class.getMethod(name, types).invoke(formatter, values);
    }

    private static void lineToldIsRendered(CitationFormatter formatter, String why) {
        Matcher line = LINE.matcher(why);
        if (line.find()) {
            CHECKS.dueText("README.md:" + why, Checks.rendered(formatter, 0), line.group(1));
        }
    }
}
