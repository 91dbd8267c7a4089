import com.sun.source.tree.Tree;
import java.io.IOException;
import java.lang.reflect.Field;
import java.lang.reflect.Method;
import java.lang.reflect.Modifier;
import java.nio.file.Files;
import java.nio.file.Path;
import java.util.ArrayList;
import java.util.HashMap;
import java.util.List;
import java.util.Map;
import java.util.Set;
import java.util.TreeSet;

/** The class keeps to the rules of LANGUAGE.md that can be read off its text; the numbers are those of the rules. */
public final class LanguageTest {
    private static final Path FILE = Path.of("src/main/java/StickRoom.java");
    private static final Map<Tree.Kind, Integer> FORBIDDEN = Map.ofEntries(
            Map.entry(Tree.Kind.LAMBDA_EXPRESSION, 2), Map.entry(Tree.Kind.MEMBER_REFERENCE, 2),
            Map.entry(Tree.Kind.THROW, 6), Map.entry(Tree.Kind.TRY, 6), Map.entry(Tree.Kind.CATCH, 6),
            Map.entry(Tree.Kind.SYNCHRONIZED, 6), Map.entry(Tree.Kind.ASSERT, 6),
            Map.entry(Tree.Kind.PACKAGE, 1), Map.entry(Tree.Kind.IMPORT, 4), Map.entry(Tree.Kind.ANNOTATION, 4));
    private static final Set<String> LIBRARY = Set.of("Math.max", "Math.min", "Math.abs", "System.arraycopy");
    private static final Set<String> PLAIN = Set.of("int", "long", "boolean", "void", "int[]", "long[]", "boolean[]");
    private static final Set<Class<?>> CONSTANTS = Set.of(
            int.class, long.class, boolean.class, char.class, String.class,
            int[].class, long[].class, char[].class, byte[].class);
    private static final int MOST_CLASSES = 12;
    private static final int MOST_FIELDS = 20;
    private static final int MOST_PARAMETERS = 7;
    private static final int MOST_ROWS = 60;
    private static final int MOST_DEEP = 8;

    private static int wrong = 0;

    private static void say(boolean ok, int rule, String what) {
        if (!ok) {
            wrong++;
            System.out.println("rule " + rule + ": " + what);
        }
    }

    public static void main(String[] args) throws IOException {
        SourceTree source = new SourceTree(FILE);
        holdText();
        holdMembers();
        holdTree(source);
        holdDepth(source);
        System.out.println(wrong == 0 ? "the language is as due" : wrong + " faults of the language");
        if (wrong != 0) {
            System.exit(1);
        }
    }

    private static void holdText() throws IOException {
        String text = Files.readString(FILE);
        for (int i = 0; i < text.length(); i++) {
            say(text.charAt(i) < 128, 4, "a sign above 127 at " + i);
        }
    }

    private static void holdMembers() {
        List<Class<?>> classes = new ArrayList<>(List.of(StickRoom.class.getDeclaredClasses()));
        Set<String> face = new TreeSet<>();
        for (Method m : StickRoom.class.getDeclaredMethods()) {
            if (Modifier.isPublic(m.getModifiers())) {
                face.add(m.getName());
            }
        }
        classes.add(StickRoom.class);
        for (Class<?> c : classes) {
            say(c == StickRoom.class || Modifier.isStatic(c.getModifiers()), 2, "not static: " + c);
            say(c.getDeclaredClasses().length == 0 || c == StickRoom.class, 2, "a class inside: " + c);
            holdFields(c);
            for (Method m : c.getDeclaredMethods()) {
                boolean isFace = c == StickRoom.class && Modifier.isPublic(m.getModifiers());
                say(isFace || !face.contains(m.getName()), 1, "bears the name of a call: " + m);
                say(m.getParameterCount() <= MOST_PARAMETERS, 11, "too many parameters: " + m);
                say(!m.isSynthetic(), 2, "made by the compiler: " + m);
            }
        }
    }

    private static void holdFields(Class<?> c) {
        int held = 0;
        for (Field f : c.getDeclaredFields()) {
            if (!Modifier.isStatic(f.getModifiers())) {
                held++;
                continue;
            }
            say(Modifier.isFinal(f.getModifiers()), 5, "static and not final: " + f);
            say(CONSTANTS.contains(f.getType()), 5, "no constant: " + f);
        }
        say(held <= MOST_FIELDS, 11, "too many fields: " + c);
    }

    private static void holdTree(SourceTree source) {
        for (Map.Entry<Tree.Kind, Integer> entry : FORBIDDEN.entrySet()) {
            say(!source.kinds.contains(entry.getKey()), entry.getValue(), "the source has " + entry.getKey());
        }
        say(source.classes.size() <= MOST_CLASSES, 11, "too many classes: " + source.classes);
        for (String type : source.types) {
            say(PLAIN.contains(type) || source.classes.contains(type), 3, "the type " + type);
        }
        for (String row : source.changedRows) {
            say(!source.staticRows.contains(row), 5, "a constant row is changed: " + row);
        }
        for (Map.Entry<String, Long> entry : source.lengths.entrySet()) {
            say(entry.getValue() <= MOST_ROWS, 11, "a long method: " + entry);
        }
        say(source.unboundedLoops.isEmpty(), 9, "loops without an end: " + source.unboundedLoops);
        // Stricter than the rule: all rows are made in constructors, so a run of calls makes nothing.
        say(source.madeInCalls.isEmpty(), 12, "made in a call: " + source.madeInCalls);
    }

    private static void holdDepth(SourceTree source) {
        Map<String, Integer> depths = new HashMap<>();
        for (String method : source.calls.keySet()) {
            int depth = depth(source, method, new ArrayList<>(), depths);
            say(depth <= MOST_DEEP, 11, "calls go " + depth + " deep from " + method);
        }
    }

    /** How many calls stand open at most, the method itself with them. */
    private static int depth(SourceTree source, String method, List<String> open, Map<String, Integer> known) {
        if (open.contains(method)) {
            say(false, 8, "recursion: " + open + " " + method);
            return 0;
        }
        if (known.containsKey(method)) {
            return known.get(method);
        }
        boolean isOwn = source.methods.contains(method) || method.startsWith(SourceTree.MADE)
                && source.classes.contains(method.substring(SourceTree.MADE.length()));
        say(isOwn || LIBRARY.contains(method), 4, "the library's " + method);
        int deepest = 0;
        open.add(method);
        for (String called : source.calls.getOrDefault(method, Set.of())) {
            deepest = Math.max(deepest, depth(source, called, open, known));
        }
        open.remove(open.size() - 1);
        known.put(method, deepest + 1);
        return deepest + 1;
    }
}
