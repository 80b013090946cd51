import java.lang.reflect.Constructor;
import java.lang.reflect.Field;
import java.lang.reflect.Method;
import java.lang.reflect.Modifier;
import java.nio.file.Files;
import java.nio.file.Path;
import java.util.ArrayList;
import java.util.Arrays;
import java.util.List;
import java.util.Set;
import java.util.TreeSet;
import java.util.regex.Matcher;
import java.util.regex.Pattern;

/** The document's face, the rules of LANGUAGE.md that can be read off the class, and the room that calls need. */
public final class FaceTest {
    private static final Due DUE = new Due("FaceTest");
    private static final String[] FACE = {
        "int row(int, int, int, long)", "int write(int, long)", "int wipe()", "int fault()", "int lay(int)",
        "int told(int, int)", "long marks(int)", "int difference(int, int, int, int)", "int quarrels(int, int, int)",
        "int hits(int, int, int, int, boolean)", "int most(int, int, int)", "int squares(int, int, int)",
        "int holding(int, int, int)", "int nearly(int, int)", "int rows(int, int, int, int, int)",
        "int longest(int, int)", "int powers(int, int, int, int)", "int sums(int, int, int, int)",
        "int turn(int, int)", "int like(int)", "int corner(int, int, boolean)", "int hear(int, int)", "int still()",
        "int found(int, int)", "int among(int)", "int count(int)"};
    private static final String[] NEVER = {"->", "::", "\\btry\\b", "\\bcatch\\b", "\\bthrow\\b", "\\bfinally\\b",
        "\\bsynchronized\\b", "\\bassert\\b", "\\bstatic\\s*\\{", "Exact\\(", "\\bvar\\b", "^package", "System\\.(?!arraycopy)",
        "Random", "Thread", "\\bdouble\\b", "\\bfloat\\b"};
    /** The static functions that rule 4 of LANGUAGE.md tells by name; it allows their like too, so this may grow. */
    private static final Set<String> LIBRARY = Set.of("Arrays.fill", "Arrays.copyOf", "Arrays.copyOfRange",
        "System.arraycopy", "Math.max", "Math.min", "Math.abs", "Math.floorDiv", "Math.floorMod", "Integer.compare",
        "Integer.bitCount", "Long.compare", "Long.bitCount");
    private static final Set<String> IMPORTS = Set.of("java.util.Arrays", "java.util.ArrayList", "java.util.List");
    private static final Pattern STATIC_CALL = Pattern.compile("\\b([A-Z]\\w*\\.\\w+)\\(");
    private static final Pattern IMPORT = Pattern.compile("^import (.*);$", Pattern.MULTILINE);
    private static final Pattern METHOD = Pattern.compile(
        "^(    |        )(?!(?:if|for|while|switch|do|else)\\b)\\w[^;={}]*\\([^;={}]*\\) \\{\n(.*?)^\\1\\}$",
        Pattern.MULTILINE | Pattern.DOTALL);
    private static final int LONGEST_METHOD = 60;

    public static void main(String[] args) throws Exception {
        constants();
        methods();
        fields();
        nested();
        source();
        library();
        lengths();
        room();
        DUE.end();
    }

    private static void constants() {
        DUE.is(0, "BAD", LeanMarks.BAD, -1);
        DUE.is(0, "NO", LeanMarks.NO, -2);
        DUE.is(0, "FULL", LeanMarks.FULL, -3);
        DUE.is(0, "NONE", LeanMarks.NONE, -4);
    }

    private static String words(Method method) {
        List<String> types = new ArrayList<>();
        for (Class<?> type : method.getParameterTypes()) {
            types.add(type.getSimpleName());
        }
        return method.getReturnType().getSimpleName() + " " + method.getName() + "(" + String.join(", ", types) + ")";
    }

    private static void methods() {
        Set<String> seen = new TreeSet<>();
        Set<String> names = new TreeSet<>();
        for (Method method : LeanMarks.class.getDeclaredMethods()) {
            if (!Modifier.isPrivate(method.getModifiers())) {
                seen.add(words(method));
                names.add(method.getName());
                DUE.holds(words(method) + " is public and no more", method.getModifiers() == Modifier.PUBLIC);
            }
        }
        DUE.holds("the methods are " + seen, seen.equals(new TreeSet<>(Arrays.asList(FACE))));
        for (Class<?> type : allClasses()) {
            for (Method method : type.getDeclaredMethods()) {
                boolean ours = type == LeanMarks.class && Modifier.isPublic(method.getModifiers());
                DUE.holds(words(method) + " bears a public name", ours || !names.contains(method.getName()));
                DUE.holds(words(method) + " has at most seven parameters", method.getParameterCount() <= 7);
            }
        }
        Constructor<?>[] made = LeanMarks.class.getDeclaredConstructors();
        DUE.holds("one constructor, public, of nothing", made.length == 1 && made[0].getParameterCount() == 0
            && made[0].getModifiers() == Modifier.PUBLIC);
    }

    private static List<Class<?>> allClasses() {
        List<Class<?>> all = new ArrayList<>(Arrays.asList(LeanMarks.class.getDeclaredClasses()));
        all.add(LeanMarks.class);
        return all;
    }

    private static void fields() {
        Set<String> open = new TreeSet<>();
        for (Field field : LeanMarks.class.getDeclaredFields()) {
            if (!Modifier.isPrivate(field.getModifiers())) {
                open.add(field.getName());
            }
        }
        DUE.holds("the constants are " + open, open.equals(Set.of("BAD", "NO", "FULL", "NONE")));
        for (Class<?> type : allClasses()) {
            int own = 0;
            for (Field field : type.getDeclaredFields()) {
                boolean isStatic = Modifier.isStatic(field.getModifiers());
                DUE.holds(field + " is final", !isStatic || Modifier.isFinal(field.getModifiers()));
                own += isStatic ? 0 : 1;
            }
            DUE.holds(type + " has at most twenty fields", own <= 20);
        }
    }

    private static void nested() {
        DUE.holds("public and final", (LeanMarks.class.getModifiers() & (Modifier.PUBLIC | Modifier.FINAL))
            == (Modifier.PUBLIC | Modifier.FINAL));
        Class<?>[] inside = LeanMarks.class.getDeclaredClasses();
        DUE.holds("at most twelve classes", inside.length <= 11);
        for (Class<?> type : inside) {
            int how = type.getModifiers();
            DUE.holds(type + " is static and not public",
                Modifier.isStatic(how) && !Modifier.isPublic(how) && !Modifier.isProtected(how));
        }
    }

    private static String text() throws Exception {
        return Files.readString(Path.of("src/main/java/LeanMarks.java"));
    }

    private static String withoutComments(String all) {
        return all.replaceAll("(?s)/\\*.*?\\*/", "").replaceAll("//[^\n]*", "");
    }

    private static void source() throws Exception {
        String all = text();
        String code = withoutComments(all);
        for (String word : NEVER) {
            DUE.holds("the source holds " + word, !Pattern.compile(word, Pattern.MULTILINE).matcher(code).find());
        }
        DUE.holds("signs 1 to 127 alone", all.chars().allMatch(c -> c > 0 && c < 128));
    }

    private static void library() throws Exception {
        String code = withoutComments(text());
        Matcher call = STATIC_CALL.matcher(code);
        while (call.find()) {
            DUE.holds("the source calls " + call.group(1), LIBRARY.contains(call.group(1)));
        }
        Matcher imported = IMPORT.matcher(code);
        while (imported.find()) {
            DUE.holds("the source imports " + imported.group(1), IMPORTS.contains(imported.group(1)));
        }
    }

    /** Rule 11; each method of the source is to be seen, so that a long one cannot slip through. */
    private static void lengths() throws Exception {
        int seen = 0;
        Matcher method = METHOD.matcher(text());
        while (method.find()) {
            seen++;
            long lines = method.group(2).lines().count();
            DUE.holds("a method has " + lines + " lines: " + method.group().lines().findFirst().orElse(""),
                lines <= LONGEST_METHOD);
        }
        int there = 1;
        for (Class<?> type : allClasses()) {
            for (Method one : type.getDeclaredMethods()) {
                there += one.isSynthetic() ? 0 : 1;
            }
        }
        DUE.is(0, "methods seen in the source, and the constructor", seen, there);
    }

    /** Calls make no objects, so that the room holds what the constructor made and no more. */
    private static void room() {
        com.sun.management.ThreadMXBean threads =
            (com.sun.management.ThreadMXBean) java.lang.management.ManagementFactory.getThreadMXBean();
        long id = Thread.currentThread().getId();
        for (int warm = 0; warm < 3; warm++) {
            everyCall(new LeanMarks());
        }
        LeanMarks x = new LeanMarks();
        long before = threads.getThreadAllocatedBytes(id);
        for (int i = 0; i < 10; i++) {
            everyCall(x);
        }
        long after = threads.getThreadAllocatedBytes(id);
        DUE.holds("calls made " + (after - before) + " bytes of objects", after - before < 4096);
    }

    private static void everyCall(LeanMarks x) {
        x.powers(13, 2, 0, 0);
        x.sums(13, 2, 2, 1);
        x.row(2, 12, 12, 0x0123456789ABL);
        x.wipe();
        x.write(8, 0x613B623B633B643BL);
        x.fault();
        x.lay(12);
        x.told(0, 2);
        x.marks(0);
        x.difference(0, 0, 1, 1);
        x.quarrels(0, 1, 0);
        x.quarrels(0, 1, 1);
        x.hits(0, 1, 1, 1, true);
        x.hits(0, 1, 1, 1, false);
        x.most(0, 0, 3);
        x.squares(6, 100, 3);
        x.holding(3, -1, 4);
        x.nearly(4, 1);
        x.rows(5, 3, 0, 3, 5);
        x.longest(3, 0);
        x.turn(3, 5);
        x.like(3);
        x.corner(3, 0, true);
        x.corner(3, 0, false);
        x.hear(3, 3);
        x.still();
        x.found(0, 0);
        x.among(0);
        x.count(1);
    }
}
