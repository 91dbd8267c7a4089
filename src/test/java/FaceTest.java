import java.io.IOException;
import java.lang.reflect.Constructor;
import java.lang.reflect.Field;
import java.lang.reflect.Method;
import java.lang.reflect.Modifier;
import java.nio.file.Files;
import java.nio.file.Path;
import java.util.Arrays;
import java.util.HashSet;
import java.util.List;
import java.util.Set;
import java.util.TreeSet;
import java.util.regex.Matcher;
import java.util.regex.Pattern;

/** The class has the document's face and no more, and its text keeps to the plainest rules of LANGUAGE.md. */
public final class FaceTest {
    private static final String[] FACE = {
        "note(int,int,int)", "drop()", "as(int,int)", "of(int,int)", "mark(int,int)", "rule(int,int)",
        "awkward()", "hand(int)", "crossed(int)", "ways()", "stuck()", "latest(int,int)", "judge(int)",
        "bass(int,boolean)", "split(int,int,int,int)", "has(int,int,int,int)", "fast(int,int,int)",
        "shape(int,int)", "hit(int,int)", "wipe(int)", "price(int)", "read(int,int)", "late(int,int)",
        "missed(int,boolean)", "sheet(int,int,int)", "put(int,int,int)", "copy(int,int,int,int,int)",
        "tape(int,int)", "undo()", "all(int)"};
    private static final String[] FORBIDDEN = {
        "\\bthrow\\b", "\\bthrows\\b", "\\btry\\b", "\\bcatch\\b", "\\bsynchronized\\b", "\\bassert\\b", "->", "::",
        "\\bpackage\\b", "\\bimport\\b", "\\bSystem\\.(?!arraycopy\\b)", "Exact\\b", "\\brecord\\b",
        "\\bRandom\\b", "\\bThread\\b", "\\bstatic\\s*\\{", "\\bgetClass\\b", "\\bhashCode\\b", "\\btoString\\b"};

    private static int wrong = 0;

    private static void say(boolean ok, String what) {
        if (!ok) {
            wrong++;
            System.out.println(what);
        }
    }

    private static String signature(Method m) {
        StringBuilder text = new StringBuilder(m.getName()).append('(');
        for (int i = 0; i < m.getParameterCount(); i++) {
            text.append(i == 0 ? "" : ",").append(m.getParameterTypes()[i].getName());
        }
        return text.append(')').toString();
    }

    private static void members() {
        Class<?> room = StickRoom.class;
        say(Modifier.isPublic(room.getModifiers()) && Modifier.isFinal(room.getModifiers()), "not public and final");
        say(room.getPackageName().isEmpty(), "in a package");
        Set<String> open = new TreeSet<>();
        for (Method m : room.getDeclaredMethods()) {
            if (Modifier.isPublic(m.getModifiers())) {
                say(m.getReturnType() == int.class && !Modifier.isStatic(m.getModifiers()), "odd: " + m);
                open.add(signature(m));
            } else {
                say(Modifier.isPrivate(m.getModifiers()), "neither public nor private: " + m);
            }
        }
        say(open.equals(new TreeSet<>(Arrays.asList(FACE))), "the face is " + open);
        for (Field f : room.getDeclaredFields()) {
            say(Modifier.isPrivate(f.getModifiers()), "not private: " + f);
        }
        Constructor<?>[] made = room.getDeclaredConstructors();
        say(made.length == 1 && made[0].getParameterCount() == 0 && Modifier.isPublic(made[0].getModifiers()),
                "constructors: " + Arrays.toString(made));
    }

    private static void insides() {
        Set<String> faceNames = new HashSet<>();
        for (String s : FACE) {
            faceNames.add(s.substring(0, s.indexOf('(')));
        }
        Class<?>[] inside = StickRoom.class.getDeclaredClasses();
        say(inside.length <= 12, "too many classes");
        List<Class<?>> all = new java.util.ArrayList<>(Arrays.asList(inside));
        all.add(StickRoom.class);
        for (Class<?> c : all) {
            say(c == StickRoom.class || Modifier.isStatic(c.getModifiers()), "not static: " + c);
            int held = 0;
            for (Field f : c.getDeclaredFields()) {
                boolean isStatic = Modifier.isStatic(f.getModifiers());
                held += isStatic ? 0 : 1;
                say(!isStatic || Modifier.isFinal(f.getModifiers()), "static and not final: " + f);
            }
            say(held <= 20, "too many fields: " + c);
            for (Method m : c.getDeclaredMethods()) {
                boolean isFace = c == StickRoom.class && Modifier.isPublic(m.getModifiers());
                say(isFace || !faceNames.contains(m.getName()), "bears the name of a call: " + m);
                say(m.getParameterCount() <= 7, "too many parameters: " + m);
                say(!m.isSynthetic(), "synthetic: " + m);
            }
        }
    }

    private static void text() throws IOException {
        String source = Files.readString(Path.of("src/main/java/StickRoom.java"));
        for (int i = 0; i < source.length(); i++) {
            say(source.charAt(i) < 128, "a sign above 127 at " + i);
        }
        String code = source.replaceAll("(?s)/\\*.*?\\*/", "").replaceAll("//[^\n]*", "");
        for (String word : FORBIDDEN) {
            Matcher m = Pattern.compile(word).matcher(code);
            say(!m.find(), "the source has " + word);
        }
    }

    public static void main(String[] args) throws IOException {
        members();
        insides();
        text();
        System.out.println(wrong == 0 ? "the face is as due" : wrong + " faults of the face");
        if (wrong != 0) {
            System.exit(1);
        }
    }
}
