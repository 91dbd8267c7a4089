import java.io.IOException;
import java.lang.reflect.Constructor;
import java.lang.reflect.Field;
import java.lang.reflect.Method;
import java.lang.reflect.Modifier;
import java.nio.file.Files;
import java.nio.file.Path;
import java.util.Arrays;
import java.util.Set;
import java.util.TreeSet;
import java.util.regex.Matcher;
import java.util.regex.Pattern;

/** The class has the face that the document writes out, and no more. */
public final class FaceTest {
    private static final Path DOCUMENT = Path.of("../shared/DOC.md");
    private static final Pattern CALL = Pattern.compile("public int (\\w+)\\(([^)]*)\\);");
    private static final int CALLS = 30;

    private static int wrong = 0;

    private static void say(boolean ok, String what) {
        if (!ok) {
            wrong++;
            System.out.println(what);
        }
    }

    private static Set<String> writtenFace() throws IOException {
        Set<String> face = new TreeSet<>();
        Matcher call = CALL.matcher(Files.readString(DOCUMENT));
        while (call.find()) {
            face.add(call.group(1) + "(" + call.group(2).replaceAll(" \\w+(?=,|$)", "").replace(" ", "") + ")");
        }
        say(face.size() == CALLS, "the document's face has " + face.size() + " calls");
        return face;
    }

    private static String signature(Method m) {
        StringBuilder text = new StringBuilder(m.getName()).append('(');
        for (int i = 0; i < m.getParameterCount(); i++) {
            text.append(i == 0 ? "" : ",").append(m.getParameterTypes()[i].getName());
        }
        return text.append(')').toString();
    }

    private static void holdMethods() throws IOException {
        Set<String> open = new TreeSet<>();
        for (Method m : StickRoom.class.getDeclaredMethods()) {
            if (Modifier.isPublic(m.getModifiers())) {
                say(m.getReturnType() == int.class && !Modifier.isStatic(m.getModifiers()), "odd: " + m);
                say(m.getExceptionTypes().length == 0, "may throw: " + m);
                open.add(signature(m));
            } else {
                say(Modifier.isPrivate(m.getModifiers()), "neither public nor private: " + m);
            }
        }
        say(open.equals(writtenFace()), "the face is " + open + ", due is " + writtenFace());
    }

    private static void holdTheRest() {
        Class<?> room = StickRoom.class;
        say(Modifier.isPublic(room.getModifiers()) && Modifier.isFinal(room.getModifiers()), "not public and final");
        say(room.getPackageName().isEmpty(), "in a package");
        say(room.getSuperclass() == Object.class && room.getInterfaces().length == 0, "more than the class that is due");
        for (Field f : room.getDeclaredFields()) {
            say(Modifier.isPrivate(f.getModifiers()), "not private: " + f);
        }
        for (Class<?> c : room.getDeclaredClasses()) {
            say(Modifier.isPrivate(c.getModifiers()) && Modifier.isStatic(c.getModifiers()), "not private, static: " + c);
        }
        Constructor<?>[] made = room.getDeclaredConstructors();
        say(made.length == 1 && made[0].getParameterCount() == 0 && Modifier.isPublic(made[0].getModifiers()),
                "constructors: " + Arrays.toString(made));
    }

    public static void main(String[] args) throws IOException {
        holdMethods();
        holdTheRest();
        System.out.println(wrong == 0 ? "the face is as due" : wrong + " faults of the face");
        if (wrong != 0) {
            System.exit(1);
        }
    }
}
