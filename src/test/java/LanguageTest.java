import java.io.IOException;
import java.lang.reflect.Constructor;
import java.lang.reflect.Field;
import java.lang.reflect.Method;
import java.lang.reflect.Modifier;
import java.nio.file.Files;
import java.nio.file.Path;
import java.util.Set;
import java.util.TreeSet;

/**
 * The document's face, and those rules of LANGUAGE.md that can be seen from outside or from the
 * words of the source. It is run in the project's folder.
 */
public final class LanguageTest {
    private static final Path SOURCE = Path.of("src/main/java/CitationFormatter.java");
    private static final String[] FACE = {
        "appendCharacter 1", "clearText 0", "loadWorks 0", "expandNumbers 0", "removeWork 1",
        "setYear 2", "setStyle 1", "setEtAl 2", "setDisambiguation 1", "setCollapseLevel 1",
        "setSortSlot 3", "setNumbering 1", "setCiteOrder 1", "beginCitation 1", "addToCitation 1",
        "removeCitation 1", "undo 0", "workCount 0", "authorCount 1", "citationCount 0",
        "citationSize 1", "bibliographyAt 1", "numberOf 1", "shownAuthors 1", "showsInitials 1",
        "suffixOf 1", "ambiguousWith 1", "renderedLength 1", "renderedCharacter 2",
        "entryCharacter 2"};
    private static final Set<String> CONSTANTS =
            Set.of("INVALID_ARGUMENT", "INVALID_STATE", "LIMIT_REACHED", "NONE");
    private static final Checks CHECKS = new Checks();

    public static void main(String[] args) throws IOException {
        face();
        constants();
        nestedClasses();
        words();
        CHECKS.close("LanguageTest");
    }

    private static void due(String what, boolean holds) {
        CHECKS.due(what, holds ? 1 : 0, 1);
    }

    private static void face() {
        Class<?> c = CitationFormatter.class;
        due("public and final", Modifier.isPublic(c.getModifiers())
                && Modifier.isFinal(c.getModifiers()));
        Set<String> found = new TreeSet<>();
        for (Method m : c.getDeclaredMethods()) {
            if (!Modifier.isPrivate(m.getModifiers())) {
                found.add(m.getName() + " " + m.getParameterCount());
                due(m.getName() + " is public", Modifier.isPublic(m.getModifiers()));
                due(m.getName() + " answers an int", m.getReturnType() == int.class);
            }
        }
        CHECKS.dueText("the methods", found.toString(), new TreeSet<>(Set.of(FACE)).toString());
        Constructor<?>[] constructors = c.getDeclaredConstructors();
        due("one public constructor without arguments", constructors.length == 1
                && constructors[0].getParameterCount() == 0
                && Modifier.isPublic(constructors[0].getModifiers()));
    }

    private static void constants() {
        CHECKS.due("INVALID_ARGUMENT", CitationFormatter.INVALID_ARGUMENT, -1);
        CHECKS.due("INVALID_STATE", CitationFormatter.INVALID_STATE, -2);
        CHECKS.due("LIMIT_REACHED", CitationFormatter.LIMIT_REACHED, -3);
        CHECKS.due("NONE", CitationFormatter.NONE, -9);
        for (Field f : CitationFormatter.class.getDeclaredFields()) {
            due(f.getName() + " is private unless the document names it",
                    Modifier.isPrivate(f.getModifiers()) != CONSTANTS.contains(f.getName()));
            due(f.getName() + " is final", Modifier.isFinal(f.getModifiers()));
        }
    }

    private static void nestedClasses() {
        Set<String> publicNames = new TreeSet<>();
        for (String method : FACE) {
            publicNames.add(method.substring(0, method.indexOf(' ')));
        }
        Class<?>[] nested = CitationFormatter.class.getDeclaredClasses();
        due("some twelve classes at most", nested.length < 12);
        for (Class<?> c : nested) {
            due(c.getName() + " is static", Modifier.isStatic(c.getModifiers()));
            int fields = 0;
            for (Field f : c.getDeclaredFields()) {
                fields += Modifier.isStatic(f.getModifiers()) ? 0 : 1;
                due(c.getName() + "." + f.getName() + " is no static state",
                        !Modifier.isStatic(f.getModifiers()) || Modifier.isFinal(f.getModifiers()));
            }
            due(c.getName() + " has few fields", fields <= 20);
            for (Method m : c.getDeclaredMethods()) {
                due(m.getName() + " has no public method's name", !publicNames.contains(m.getName()));
                due(m.getName() + " has few parameters", m.getParameterCount() <= 7);
            }
        }
    }

    private static void words() throws IOException {
        String source = Files.readString(SOURCE)
                .replaceAll("(?s)/\\*.*?\\*/", " ").replaceAll("//[^\n]*", " ");
        String[] forbidden = {"throw", "throws", "try", "catch", "synchronized", "assert", "import",
            "package", "instanceof", "System", "Object", "hashCode", "toString", "protected"};
        for (String word : forbidden) {
            due("no word " + word, !source.matches("(?s).*\\b" + word + "\\b.*"));
        }
        due("no lambda", !source.contains("->"));
        due("no method reference", !source.contains("::"));
        for (String line : source.split("\n")) {
            due("short line: " + line, line.length() <= 100);
            if (line.contains("new ")) {
                due("objects are made in constructors alone: " + line,
                        line.contains("final ") || line.trim().equals("ring[i] = new State();"));
            }
        }
    }
}
