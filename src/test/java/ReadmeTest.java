import java.lang.reflect.Method;
import java.lang.reflect.Modifier;
import java.nio.file.Files;
import java.nio.file.Path;
import java.util.List;
import java.util.Set;
import java.util.TreeSet;
import java.util.regex.Matcher;
import java.util.regex.Pattern;

/** README.md says how to use the class: its example answers what it says, and its table names every call. */
public final class ReadmeTest {
    private static final Due DUE = new Due("ReadmeTest");
    private static final Pattern CALL = Pattern.compile("x\\.(\\w+)\\((.*?)\\); +// (-?\\d+)(:.*)?");
    private static final Pattern TABLE_ROW = Pattern.compile("\\| (\\d+) \\| `(\\w+)\\((.*?)\\)` \\|.*");

    public static void main(String[] args) throws Exception {
        List<String> lines = Files.readAllLines(Path.of("README.md"));
        example(lines);
        table(lines);
        DUE.end();
    }

    private static void example(List<String> lines) {
        DUE.sentence(0, "README.md says how to use the class");
        Calls x = new Calls(DUE);
        for (String line : lines) {
            if (line.startsWith("x.")) {
                Matcher call = CALL.matcher(line);
                DUE.holds("a call and its answer: " + line, call.matches());
                if (call.matches()) {
                    x.due(Long.parseLong(call.group(3)), call.group(1), numbers(call.group(2)));
                }
            }
        }
    }

    private static long[] numbers(String words) {
        if (words.isEmpty()) {
            return new long[0];
        }
        String[] parts = words.split(", ");
        long[] all = new long[parts.length];
        for (int i = 0; i < parts.length; i++) {
            all[i] = number(parts[i]);
        }
        return all;
    }

    private static long number(String word) {
        if (word.equals("true") || word.equals("false")) {
            return word.equals("true") ? 1 : 0;
        }
        return word.startsWith("'") ? word.charAt(1) : Long.decode(word.replace("L", ""));
    }

    private static void table(List<String> lines) throws Exception {
        String document = Files.readString(Path.of("../shared/DOC.md"));
        Set<String> named = new TreeSet<>();
        for (String line : lines) {
            Matcher row = TABLE_ROW.matcher(line);
            if (row.matches()) {
                named.add(row.group(2) + " " + numberOfWords(row.group(3)));
                DUE.holds("the document's promise " + row.group(1) + " is " + row.group(2),
                    document.contains("## Promise " + row.group(1) + ": " + row.group(2) + "\n"));
            }
        }
        Set<String> face = new TreeSet<>();
        for (Method method : LeanMarks.class.getDeclaredMethods()) {
            if (Modifier.isPublic(method.getModifiers())) {
                face.add(method.getName() + " " + method.getParameterCount());
            }
        }
        DUE.holds("the table names " + named + ", the face is " + face, named.equals(face));
    }

    private static int numberOfWords(String words) {
        return words.isEmpty() ? 0 : words.split(", ").length;
    }
}
