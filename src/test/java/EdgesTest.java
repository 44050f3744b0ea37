import java.io.IOException;
import java.lang.reflect.InvocationTargetException;
import java.lang.reflect.Method;
import java.nio.file.Files;
import java.nio.file.Path;
import java.util.ArrayList;
import java.util.Comparator;
import java.util.LinkedHashMap;
import java.util.List;
import java.util.Map;
import java.util.TreeMap;
import java.util.regex.Matcher;
import java.util.regex.Pattern;

/**
 * The document, sentence by sentence: each has a test of its own, which bears its words. It also
 * reads the document: a test whose words are not there, and words that no test bears, are faults.
 */
public final class EdgesTest {
    private static final Class<?>[] EDGES = {EdgesOfTerms.class, EdgesOfMacros.class, EdgesOfLine.class,
        EdgesOfWays.class, EdgesOfReadings.class, EdgesOfSheets.class};
    private static final Path DOCUMENT = Path.of("../shared/DOC.md");
    private static final Pattern SECTION = Pattern.compile("(?m)^## (?:Promise )?(Terms|What it is|\\d+)\\b.*$");
    private static final Due due = new Due();

    public static void main(String[] args) throws IOException, ReflectiveOperationException {
        List<Method> tests = tests();
        for (Method test : tests) {
            run(test);
        }
        due.part("the document");
        allWordsHaveTests(tests, sections(Files.readString(DOCUMENT)));
        System.out.println(tests.size() + " sentences, " + due.looks() + " answers");
        due.end();
    }

    private static List<Method> tests() {
        List<Method> tests = new ArrayList<>();
        for (Class<?> edges : EDGES) {
            for (Method method : edges.getDeclaredMethods()) {
                if (method.isAnnotationPresent(Says.class)) {
                    tests.add(method);
                }
            }
        }
        // Long words first: short ones are found in what those leave of a sentence.
        tests.sort(Comparator.comparing((Method test) -> -words(test).length()).thenComparing(Method::toString));
        return tests;
    }

    private static String words(Method test) {
        return test.getAnnotation(Says.class).words();
    }

    private static void run(Method test) throws ReflectiveOperationException {
        due.part(test.getAnnotation(Says.class).in() + " \"" + words(test) + "\" (" + test.getName() + ")");
        int before = due.looks();
        try {
            test.invoke(null, due);
        } catch (InvocationTargetException thrown) {
            due.is("no call throws", "" + thrown.getCause(), "");
        }
        due.is("it looks at answers", due.looks() > before ? 1 : 0, 1);
    }

    private static Map<String, StringBuilder> sections(String document) {
        Map<String, StringBuilder> sections = new LinkedHashMap<>();
        Matcher title = SECTION.matcher(document);
        while (title.find()) {
            int end = document.indexOf("\n## ", title.end());
            String text = document.substring(title.end(), end < 0 ? document.length() : end);
            // What is no sentence on a call's answers: frames, the signature, headings of the interface.
            text = text.replaceAll("(?m)^```.*$|^`[^`]*`|^Ahead of the calls.*$", " ");
            sections.put(title.group(1), new StringBuilder(text.replaceAll("\\s+", " ")));
        }
        return sections;
    }

    private static void allWordsHaveTests(List<Method> tests, Map<String, StringBuilder> sections) {
        due.is("promises and terms", sections.size(), 33);
        Map<String, StringBuilder> left = new TreeMap<>(sections);
        for (Method test : tests) {
            StringBuilder section = left.get(test.getAnnotation(Says.class).in());
            int at = section == null ? -1 : section.indexOf(words(test));
            due.is("\"" + words(test) + "\" is said", at >= 0 ? 1 : 0, 1);
            if (at >= 0) {
                section.replace(at, at + words(test).length(), " | ");
            }
        }
        left.remove("What it is");
        for (Map.Entry<String, StringBuilder> section : left.entrySet()) {
            String words = section.getValue().toString().replaceAll("[^A-Za-z0-9]+", " ").trim();
            due.is("what has no test of " + section.getKey(), words, "");
        }
    }
}
