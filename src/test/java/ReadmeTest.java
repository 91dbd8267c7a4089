import java.io.IOException;
import java.lang.reflect.Method;
import java.lang.reflect.Modifier;
import java.nio.file.DirectoryStream;
import java.nio.file.Files;
import java.nio.file.Path;
import java.util.Set;
import java.util.TreeSet;
import java.util.regex.Matcher;
import java.util.regex.Pattern;

/** What README.md says of the class: each call of its examples is made, in one room, and its answer held to be so. */
public final class ReadmeTest {
    private static final Path README = Path.of("README.md");
    private static final Path TESTS = Path.of("src/test/java");
    private static final Pattern CALL = Pattern.compile("room\\.(\\w+)\\((.*?)\\);\\s*// (-?\\d+)\\b.*");

    private static int wrong = 0;

    private static void say(boolean ok, String what) {
        if (!ok) {
            wrong++;
            System.out.println(what);
        }
    }

    public static void main(String[] args) throws IOException, ReflectiveOperationException {
        String text = Files.readString(README);
        holdExamples(text);
        holdTests(text);
        System.out.println(wrong == 0 ? "README.md is as due" : wrong + " faults of README.md");
        if (wrong != 0) {
            System.exit(1);
        }
    }

    private static void holdExamples(String text) throws ReflectiveOperationException {
        StickRoom room = new StickRoom();
        Set<String> shown = new TreeSet<>();
        for (String row : text.split("\n")) {
            Matcher call = CALL.matcher(row);
            if (call.matches()) {
                shown.add(call.group(1));
                int answer = answer(room, call.group(1), call.group(2));
                say(answer == Integer.parseInt(call.group(3)), row + " - the answer is " + answer);
            } else {
                say(!row.startsWith("room."), "an example without its answer: " + row);
            }
        }
        for (Method call : StickRoom.class.getDeclaredMethods()) {
            boolean isCall = Modifier.isPublic(call.getModifiers());
            say(!isCall || shown.contains(call.getName()), "no example of " + call.getName());
        }
    }

    private static int answer(StickRoom room, String name, String told) throws ReflectiveOperationException {
        String[] arguments = told.isEmpty() ? new String[0] : told.split(", ");
        for (Method call : StickRoom.class.getDeclaredMethods()) {
            if (call.getName().equals(name) && call.getParameterCount() == arguments.length) {
                Object[] values = new Object[arguments.length];
                for (int i = 0; i < values.length; i++) {
                    values[i] = value(arguments[i]);
                }
                return (Integer) call.invoke(room, values);
            }
        }
        throw new IllegalArgumentException("no call " + name + "(" + told + ")");
    }

    private static Object value(String told) {
        if (told.equals("true") || told.equals("false")) {
            return Boolean.valueOf(told);
        }
        return told.startsWith("0b") ? Integer.parseInt(told.substring(2), 2) : Integer.parseInt(told);
    }

    private static void holdTests(String text) throws IOException {
        say(text.contains("`.ci/run`"), "README.md does not say how to run the tests");
        try (DirectoryStream<Path> files = Files.newDirectoryStream(TESTS, "*Test.java")) {
            for (Path file : files) {
                String name = file.getFileName().toString().replace(".java", "");
                say(text.contains("- `" + name + "`:"), "README.md does not tell of " + name);
            }
        }
    }
}
