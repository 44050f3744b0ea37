import java.io.IOException;
import java.lang.reflect.Constructor;
import java.lang.reflect.Field;
import java.lang.reflect.Method;
import java.lang.reflect.Modifier;
import java.nio.file.Files;
import java.nio.file.Path;
import java.util.Arrays;
import java.util.Set;
import java.util.TreeSet;
import java.util.regex.Matcher;
import java.util.regex.Pattern;

/** The face of the document, and those rules of LANGUAGE.md that can be seen from outside or by the words. */
public final class FaceTest {
    private static final String[] FACE = {
        "int macros(int, int, int, int)", "int ofMacro(int, int)", "int key(int, int)", "int times(int, int)",
        "int press(int)", "int play(int)", "int letter(int)", "int clear()", "int row(int, int, int, int, int)",
        "int fewest(int, int, int, int, int)", "int again(int, int)", "int like(int, int)", "int still(int)",
        "int come()", "int reading(int, int)", "int back(int)", "int timings(int)", "int kinds(int)",
        "long odds(int, int)", "int sheet(int, int, int)", "int lose(int)", "int put(int, int, int)",
        "long cell(int, int, int)", "int copy(int, int, int, int, int)", "int tell(int)", "int click(int)",
        "int as(int, int)", "int trace()", "int fault()", "int many(int)"};
    private static final String[] CONSTANTS = {"UNKNOWN", "OUTSIDE", "STATE", "FULL", "NONE", "LOST"};
    private static final String[] RULED_OUT = {"throw", "throws", "try", "catch", "synchronized", "assert", "->",
        "::", "Object", "String", "System.out", "protected", "float", "double", "hashCode", "equals", "toString"};
    private static final Path SOURCE = Path.of("src/main/java/MacroKeys.java");
    private static final Path DOCUMENT = Path.of("../shared/DOC.md");
    private static final int CONSTANT_LINES = 2;
    private static int wrong;

    public static void main(String[] args) throws IOException {
        methods();
        constants();
        nestedClasses();
        words();
        documentsFace();
        headings();
        System.out.println(wrong == 0 ? "the face is as due" : wrong + " parts of the face are not as due");
        if (wrong != 0) {
            System.exit(1);
        }
    }

    private static void due(boolean so, String what) {
        if (!so) {
            wrong++;
            System.out.println("not so: " + what);
        }
    }

    private static void methods() {
        due(Modifier.isFinal(MacroKeys.class.getModifiers()), "the class is final");
        due(Modifier.isPublic(MacroKeys.class.getModifiers()), "the class is public");
        Set<String> told = new TreeSet<>();
        Set<String> names = new TreeSet<>();
        for (Method method : MacroKeys.class.getDeclaredMethods()) {
            if (Modifier.isPublic(method.getModifiers())) {
                String types = Arrays.toString(method.getParameterTypes()).replaceAll("^\\[|]$", "");
                told.add(method.getReturnType() + " " + method.getName() + "(" + types + ")");
                names.add(method.getName());
                due(!Modifier.isStatic(method.getModifiers()), method + " is not static");
            }
        }
        due(told.equals(new TreeSet<>(Arrays.asList(FACE))), "the public methods are those of the document: " + told);
        for (Method method : MacroKeys.class.getDeclaredMethods()) {
            boolean open = Modifier.isPublic(method.getModifiers());
            due(open || Modifier.isPrivate(method.getModifiers()), method + " is public or private");
            due(open || !names.contains(method.getName()), method + " has a name of its own");
        }
        for (Constructor<?> made : MacroKeys.class.getDeclaredConstructors()) {
            due(Modifier.isPublic(made.getModifiers()) && made.getParameterCount() == 0, made + " is the only one");
        }
    }

    private static void constants() {
        Set<String> told = new TreeSet<>();
        for (Field field : MacroKeys.class.getDeclaredFields()) {
            int is = field.getModifiers();
            due(Modifier.isPublic(is) || Modifier.isPrivate(is), field + " is public or private");
            due(!Modifier.isStatic(is) || Modifier.isFinal(is), field + " is final");
            if (Modifier.isPublic(is)) {
                told.add(field.getName());
                due(field.getType() == (field.getName().equals("LOST") ? long.class : int.class), field + " type");
            }
        }
        due(told.equals(new TreeSet<>(Arrays.asList(CONSTANTS))), "the constants are those of the document: " + told);
    }

    private static void nestedClasses() {
        Class<?>[] inside = MacroKeys.class.getDeclaredClasses();
        due(inside.length <= 12, "at most twelve classes");
        for (Class<?> each : inside) {
            due(Modifier.isStatic(each.getModifiers()), each + " is static");
            due(!Modifier.isPublic(each.getModifiers()), each + " is not public");
            for (Field field : each.getDeclaredFields()) {
                int is = field.getModifiers();
                due(!Modifier.isStatic(is) || Modifier.isFinal(is), field + " is final");
            }
            for (Method method : each.getDeclaredMethods()) {
                due(Arrays.stream(FACE).noneMatch(call -> call.contains(" " + method.getName() + "(")),
                        method + " bears no name of the face");
                due(method.getParameterCount() <= 7, method + " takes at most seven parameters");
            }
        }
    }

    /** Each line of the face that the document tells stands in the class, parameters' names and all. */
    private static void documentsFace() throws IOException {
        String document = Files.readString(DOCUMENT);
        int begin = document.indexOf("```java\n") + "```java\n".length();
        String[] face = document.substring(begin, document.indexOf("```", begin)).split("\n");
        due(face.length == CONSTANT_LINES + FACE.length + 3, "the face has so many lines: " + face.length);
        String source = Files.readString(SOURCE);
        int from = 0;
        for (String line : face) {
            int at = source.indexOf(line.replaceAll("\\);$", ") {"), from);
            due(at >= 0, "in the document's order: " + line);
            from = Math.max(at, from);
        }
    }

    /** The headings that the interface has ahead of its calls: each call stands below its own. */
    private static void headings() throws IOException {
        String source = Files.readString(SOURCE);
        Matcher told = Pattern.compile("(?m)^Ahead of the calls (.*) the interface says: (---- .*)\\.$")
                .matcher(Files.readString(DOCUMENT));
        int parts = 0;
        int calls = 0;
        while (told.find()) {
            parts++;
            int begin = source.indexOf("// " + told.group(2) + "\n");
            int end = source.indexOf("// ----", begin + 1);
            String part = begin < 0 ? "" : source.substring(begin, end < 0 ? source.length() : end);
            for (String call : told.group(1).replace("`", "").split(", ")) {
                calls++;
                due(Pattern.compile("(?m)^    public \\w+ " + call + "\\(").matcher(part).find(),
                        call + " below " + told.group(2));
            }
        }
        due(parts == 5 && calls == FACE.length, "all calls have a heading: " + parts + ", " + calls);
    }

    private static void words() throws IOException {
        String source = Files.readString(SOURCE);
        String code = source.replaceAll("(?s)/\\*.*?\\*/", "").replaceAll("//[^\n]*", "");
        for (String word : RULED_OUT) {
            String edge = Character.isLetter(word.charAt(0)) ? "\\b" : "";
            due(!Pattern.compile(edge + Pattern.quote(word) + edge).matcher(code).find(), "no " + word);
        }
        Matcher imports = Pattern.compile("(?m)^import (.*);").matcher(code);
        while (imports.find()) {
            due(imports.group(1).equals("java.util.Arrays"), "no import of " + imports.group(1));
        }
        due(source.chars().allMatch(c -> c < 128), "signs 1 to 127 alone");
    }
}
