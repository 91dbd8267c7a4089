import java.lang.reflect.Array;
import java.lang.reflect.Field;
import java.lang.reflect.InvocationTargetException;
import java.lang.reflect.Method;
import java.lang.reflect.Modifier;
import java.util.ArrayList;
import java.util.Arrays;
import java.util.Collections;
import java.util.Comparator;
import java.util.IdentityHashMap;
import java.util.List;
import java.util.Random;
import java.util.Set;

/** Runs of 512 calls with any arguments: none throws, each answer is one that can be, and the room does not grow. */
public final class RoomTest {
    private static final int CALLS = 512;
    private static final int RUNS = 1200;
    private static final int MOST_OBJECTS = 60;
    private static final int MOST_ELEMENTS = 6000;
    private static final int LOWEST_FINDING = -100006;
    private static final int HIGHEST_FINDING = -100001;
    private static final int[] ODD = {
        Integer.MIN_VALUE, Integer.MIN_VALUE + 1, -100000, -25, -1, 19, 20, 21, 23, 24, 25, 30, 31, 32, 33, 63, 64, 255, 256,
        9999, 10000, 65535, 65536, 1 << 20, (1 << 20) - 1, 1 << 30, Integer.MAX_VALUE - 24, Integer.MAX_VALUE};

    private static int wrong = 0;

    private static void say(boolean ok, String what) {
        if (!ok) {
            wrong++;
            System.out.println(what);
        }
    }

    /** Counts what can be reached from an object: objects and arrays, and their fields and elements. */
    private static final class Size {
        int objects = 0;
        int elements = 0;
        private final Set<Object> seen = Collections.newSetFromMap(new IdentityHashMap<>());

        Size(Object from) throws IllegalAccessException {
            add(from);
        }

        private void add(Object object) throws IllegalAccessException {
            if (object == null || !seen.add(object)) {
                return;
            }
            objects++;
            if (object.getClass().isArray()) {
                elements += Array.getLength(object);
                if (object instanceof Object[] rows) {
                    for (Object row : rows) {
                        add(row);
                    }
                }
                return;
            }
            for (Field field : object.getClass().getDeclaredFields()) {
                if (!Modifier.isStatic(field.getModifiers())) {
                    elements++;
                    field.setAccessible(true);
                    if (!field.getType().isPrimitive()) {
                        add(field.get(object));
                    }
                }
            }
        }
    }

    private static List<Method> calls() {
        List<Method> calls = new ArrayList<>();
        for (Method m : StickRoom.class.getDeclaredMethods()) {
            if (Modifier.isPublic(m.getModifiers())) {
                calls.add(m);
            }
        }
        // The order of reflection is free, and a run must be the same every time.
        calls.sort(Comparator.comparing(Method::getName));
        return calls;
    }

    private static Object argument(Class<?> type, Random random, int oddness, int clock) {
        if (type == boolean.class) {
            return random.nextBoolean();
        }
        if (random.nextInt(100) < oddness) {
            return ODD[random.nextInt(ODD.length)];
        }
        // Mostly a small number, at times one that rises with the calls, as ticks do.
        return random.nextInt(4) == 0 ? clock * 19 : random.nextInt(5);
    }

    private static void run(int seed, List<Method> calls) throws IllegalAccessException {
        Random random = new Random(seed);
        StickRoom room = new StickRoom();
        Size before = new Size(room);
        say(before.objects <= MOST_OBJECTS && before.elements <= MOST_ELEMENTS,
                "a new room has " + before.objects + " objects, " + before.elements + " fields and elements");
        int oddness = seed % 3 == 0 ? 60 : seed % 3 == 1 ? 15 : 2;
        for (int k = 0; k < CALLS; k++) {
            Method call = calls.get(random.nextInt(calls.size()));
            Object[] arguments = new Object[call.getParameterCount()];
            for (int i = 0; i < arguments.length; i++) {
                arguments[i] = argument(call.getParameterTypes()[i], random, oddness, k);
            }
            String told = "run " + seed + ", " + call.getName() + Arrays.toString(arguments);
            try {
                int answer = (Integer) call.invoke(room, arguments);
                say(answer >= -99999 || answer >= LOWEST_FINDING && answer <= HIGHEST_FINDING, told + " answered " + answer);
            } catch (InvocationTargetException e) {
                say(false, told + " threw " + e.getCause());
            }
        }
        Size after = new Size(room);
        say(after.objects == before.objects && after.elements == before.elements, "run " + seed + ": the room grew");
    }

    public static void main(String[] args) throws IllegalAccessException {
        List<Method> calls = calls();
        for (int seed = 0; seed < RUNS; seed++) {
            run(seed, calls);
        }
        System.out.println(RUNS * CALLS + " calls with any arguments, " + wrong + " faults");
        if (wrong != 0) {
            System.exit(1);
        }
    }
}
