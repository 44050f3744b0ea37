import com.sun.management.ThreadMXBean;
import java.io.IOException;
import java.lang.management.ManagementFactory;
import java.lang.reflect.Array;
import java.lang.reflect.Field;
import java.lang.reflect.Method;
import java.lang.reflect.Modifier;
import java.nio.file.Files;
import java.nio.file.Path;
import java.util.Collections;
import java.util.IdentityHashMap;
import java.util.LinkedHashMap;
import java.util.Map;
import java.util.Set;
import java.util.TreeSet;
import java.util.regex.Pattern;

/**
 * What a run makes has one room. It is counted as if every call made what the dearest one makes,
 * be it an object's first call or a later one, beside what the constructor makes.
 */
public final class RoomTest {
    private static final long ROOM_OBJECTS = 600_000, ROOM_ELEMENTS = 7_300_000, CALLS = 512;
    /** No object is smaller for this machine; an element or field has at least a byte. */
    private static final long SMALLEST_OBJECT = 16;
    private static final String DEEP = "k;e3axb<;e3000h;e31101";
    private static final Pattern OF_FINAL_FIELD = Pattern.compile(" +(private )?(static )?final \\S+ \\w+ = .*;");
    private static final Pattern MAKES = Pattern.compile("\\bnew\\b|= *\\{|\\bclone\\(|\\bcopyOf|\"");
    private static final Map<String, Call> FACE = face();
    private static final ThreadMXBean THREADS = (ThreadMXBean) ManagementFactory.getThreadMXBean();
    private static int wrong;
    private static long dearest;
    private static String dearestCall = "none";

    private interface Call {
        void on(MacroKeys x, int c);
    }

    public static void main(String[] args) throws IOException, IllegalAccessException {
        allCallsAreHere();
        onlyFinalFieldsAreMade();
        // Once unmeasured: what the machine itself makes by a first use is no call's.
        measureAll();
        dearest = 0;
        dearestCall = "none";
        measureAll();
        roomIsEnough();
        objectsDoNotGrow();
        System.out.println(wrong == 0 ? "the room is kept" : wrong + " times too much is made");
        if (wrong != 0) {
            System.exit(1);
        }
    }

    private static void due(boolean so, String what) {
        if (!so) {
            wrong++;
            System.out.println("not so: " + what);
        }
    }

    private static Map<String, Call> face() {
        Map<String, Call> face = new LinkedHashMap<>();
        face.put("fewest", (x, c) -> x.fewest(1, 2, 0, 5, c % 22 - 1));
        face.put("again", (x, c) -> x.again(c % 3, c % 2));
        face.put("like", (x, c) -> x.like(10 - c % 11, c % 7));
        face.put("still", (x, c) -> x.still(10 - c % 11));
        face.put("come", (x, c) -> x.come());
        face.put("row", (x, c) -> x.row(2, 1, 0, 20, c % 5));
        face.put("play", (x, c) -> x.play(2 - c % 3));
        face.put("timings", (x, c) -> x.timings(c % 3));
        face.put("kinds", (x, c) -> x.kinds(c % 3));
        face.put("odds", (x, c) -> x.odds(4 - c % 5, c % 2));
        face.put("times", (x, c) -> x.times(c % 3, 1 + c % 3));
        face.put("macros", (x, c) -> x.macros(3, 0, 0, DEEP.length() - c % 2));
        face.put("ofMacro", (x, c) -> x.ofMacro(2 - c % 3, 4 - c % 5));
        face.put("key", (x, c) -> x.key(c % 3, c % 5));
        face.put("press", (x, c) -> x.press(c % 9));
        face.put("letter", (x, c) -> x.letter(c % 6));
        face.put("clear", (x, c) -> x.clear());
        face.put("reading", (x, c) -> x.reading(c % 3, c % 6));
        face.put("back", (x, c) -> x.back(c % 3));
        face.put("sheet", (x, c) -> x.sheet(0, c % 3, 60 - c % 62));
        face.put("put", (x, c) -> x.put(0, c % 61, c));
        face.put("cell", (x, c) -> x.cell(0, c % 61, c % 3));
        face.put("copy", (x, c) -> x.copy(c % 2, 0, 1, c % 2, 4));
        face.put("lose", (x, c) -> x.lose(0));
        face.put("tell", (x, c) -> x.tell(c % 3));
        face.put("click", (x, c) -> x.click(c % 3));
        face.put("as", (x, c) -> x.as(c % 3, c % 4));
        face.put("trace", (x, c) -> x.trace());
        face.put("fault", (x, c) -> x.fault());
        face.put("many", (x, c) -> x.many(c % 6));
        return face;
    }

    private static void allCallsAreHere() {
        Set<String> names = new TreeSet<>();
        for (Method method : MacroKeys.class.getDeclaredMethods()) {
            if (Modifier.isPublic(method.getModifiers())) {
                names.add(method.getName());
            }
        }
        due(names.equals(new TreeSet<>(FACE.keySet())), "every call is counted: " + names);
    }

    /** By the words, too: what a compiler spares by its own wit is made all the same elsewhere. */
    private static void onlyFinalFieldsAreMade() throws IOException {
        String source = Files.readString(Path.of("src/main/java/MacroKeys.java"));
        String[] lines = source.split("\n");
        for (int at = 0; at < lines.length; at++) {
            String code = lines[at].replaceAll("^ *(/\\*|\\*|//).*|//.*", "");
            boolean makes = MAKES.matcher(code).find();
            due(!makes || OF_FINAL_FIELD.matcher(code).matches(), "line " + (at + 1) + " makes nothing:" + code);
        }
    }

    /** Each call as an object's first ones, with macros and without, and all of them in one run. */
    private static void measureAll() {
        for (Map.Entry<String, Call> each : FACE.entrySet()) {
            MacroKeys bare = new MacroKeys();
            MacroKeys deep = deep();
            for (int c = 0; c < 6; c++) {
                measure(each.getKey(), each.getValue(), bare, c);
                measure(each.getKey(), each.getValue(), deep, c);
            }
        }
        run(new MacroKeys());
        run(deep());
    }

    private static MacroKeys deep() {
        MacroKeys x = Due.with(DEEP);
        Due.row(x, 0, 2, 1, 2, 3, 4, 5);
        Due.row(x, 1, 2, 3, 2, 1, 0, 3);
        Due.row(x, 2, 1, 10, 9, 8, 10, 9, 8, 10, 9, 8, 10, 9, 8, 10, 9, 8, 10, 9, 8, 10, 9);
        for (int r = 0; r < 5; r++) {
            x.reading(r % 3, 2);
        }
        x.press(1);
        return x;
    }

    private static void run(MacroKeys x) {
        int c = 0;
        while (c < CALLS) {
            for (Map.Entry<String, Call> each : FACE.entrySet()) {
                measure(each.getKey(), each.getValue(), x, c);
                c++;
            }
        }
    }

    private static void measure(String name, Call call, MacroKeys x, int c) {
        long before = bytes();
        call.on(x, c);
        long made = bytes() - before;
        if (made > dearest) {
            dearest = made;
            dearestCall = name;
        }
    }

    private static long bytes() {
        return THREADS.getCurrentThreadAllocatedBytes();
    }

    private static void roomIsEnough() throws IllegalAccessException {
        Count own = new Count(new MacroKeys());
        long objects = own.objects + CALLS * (dearest / SMALLEST_OBJECT);
        long elements = own.elements + CALLS * dearest;
        System.out.println("the constructor makes " + own + ", the dearest call (" + dearestCall + ") "
            + dearest + " bytes");
        due(objects <= ROOM_OBJECTS, objects + " objects have room");
        due(elements <= ROOM_ELEMENTS, elements + " elements have room");
    }

    private static void objectsDoNotGrow() throws IllegalAccessException {
        String made = new Count(new MacroKeys()).toString();
        MacroKeys[] used = {new MacroKeys(), deep()};
        for (MacroKeys x : used) {
            run(x);
            String then = new Count(x).toString();
            due(made.equals(then), "an object is not more by its calls: " + made + ", then " + then);
        }
    }

    /** All objects and rows that an object holds, with their fields and elements. */
    private static final class Count {
        private final Set<Object> seen = Collections.newSetFromMap(new IdentityHashMap<>());
        long objects;
        long elements;

        Count(Object whole) throws IllegalAccessException {
            add(whole);
        }

        private void add(Object part) throws IllegalAccessException {
            if (part == null || !seen.add(part)) {
                return;
            }
            objects++;
            if (part.getClass().isArray()) {
                elements += Array.getLength(part);
                if (part instanceof Object[] parts) {
                    for (Object each : parts) {
                        add(each);
                    }
                }
                return;
            }
            for (Field field : part.getClass().getDeclaredFields()) {
                if (!Modifier.isStatic(field.getModifiers())) {
                    elements++;
                    field.setAccessible(true);
                    if (!field.getType().isPrimitive()) {
                        add(field.get(part));
                    }
                }
            }
        }

        @Override
        public String toString() {
            return objects + " objects with " + elements + " elements";
        }
    }
}
