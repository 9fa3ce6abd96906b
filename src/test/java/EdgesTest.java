import java.io.IOException;
import java.lang.reflect.InvocationTargetException;
import java.lang.reflect.Method;
import java.nio.file.Files;
import java.nio.file.Path;
import java.util.ArrayList;
import java.util.Comparator;
import java.util.List;
import java.util.TreeMap;
import java.util.regex.Matcher;
import java.util.regex.Pattern;

/**
 * Runs a test of each sentence of the document that names a boundary case, and looks whether each such sentence
 * has one. With an argument, tells each test that is run.
 */
public final class EdgesTest {
    private static final List<Class<? extends Edges>> TESTS = List.of(TellingEdges.class, TapeEdges.class,
        LawEdges.class, RaceEdges.class, ScriptEdges.class, LookEdges.class, ComingEdges.class, BeatingEdges.class,
        ImageEdges.class);

    /* What tells a boundary case: where one of these stands, a test must quote it. */
    private static final Pattern EDGE = Pattern.compile("[0-9]|NONE|\\b(at most|at least|at first|none|lowest|least|most"
        + "|fewest|greatest|above|below|beyond|others|can't|cut|empty|latest|aside|alone|else|if|each|without|there)\\b");

    private static final List<String> WRONG = new ArrayList<>();
    private static int asked;

    public static void main(String[] args) throws IOException, ReflectiveOperationException {
        List<Method> tests = tests();
        for (Method test : tests) {
            if (args.length > 0) {
                System.out.println(told(test));
            }
            run(test);
        }
        String[] parts = Files.readString(Path.of("../shared/DOC.md")).split("\n## ");
        TreeMap<Integer, String> promises = promises(parts);
        StringBuilder terms = terms(parts);
        quotesStand(tests, promises, terms.toString());
        sentencesAreTested(tests, promises);
        termsAreTested(tests, terms);
        WRONG.forEach(System.out::println);
        System.out.println("EdgesTest: " + tests.size() + " tests, " + asked + " answers, " + WRONG.size() + " wrong");
        if (!WRONG.isEmpty() || tests.isEmpty()) {
            System.exit(1);
        }
    }

    private static List<Method> tests() {
        List<Method> tests = new ArrayList<>();
        for (Class<?> c : TESTS) {
            for (Method method : c.getDeclaredMethods()) {
                if (method.isAnnotationPresent(Sentence.class)) {
                    tests.add(method);
                }
            }
        }
        tests.sort(Comparator.comparingInt(EdgesTest::promise).thenComparing(Method::toString));
        return tests;
    }

    private static int promise(Method test) {
        return test.getAnnotation(Sentence.class).promise();
    }

    private static String says(Method test) {
        return test.getAnnotation(Sentence.class).says();
    }

    private static String told(Method test) {
        return "promise " + promise(test) + ", \"" + says(test) + "\" ("
            + test.getDeclaringClass().getSimpleName() + "." + test.getName() + ")";
    }

    private static void run(Method test) throws ReflectiveOperationException {
        Edges edges = (Edges) test.getDeclaringClass().getDeclaredConstructor().newInstance();
        try {
            test.invoke(edges);
        } catch (InvocationTargetException thrown) {
            edges.wrong.add("threw " + thrown.getCause());
        }
        asked += edges.asked;
        if (edges.asked == 0) {
            edges.wrong.add("asks nothing");
        }
        edges.wrong.forEach(w -> WRONG.add(told(test) + ": " + w));
    }

    private static String plain(String text) {
        return text.replace("```text", " ").replace("```", " ").replaceAll("\\s+", " ").trim();
    }

    /** What each promise says, by its number. */
    private static TreeMap<Integer, String> promises(String[] parts) {
        TreeMap<Integer, String> promises = new TreeMap<>();
        for (String part : parts) {
            Matcher head = Pattern.compile("(?s)Promise ([0-9]+): [^\n]*\n+`[^`]*`: (.*)").matcher(part);
            if (head.matches()) {
                promises.put(Integer.parseInt(head.group(1)), plain(head.group(2)));
            }
        }
        return promises;
    }

    /** What is said ahead of the promises and binds them: how long an object is used, and the terms. */
    private static StringBuilder terms(String[] parts) {
        StringBuilder terms = new StringBuilder();
        for (String part : parts) {
            if (part.startsWith("Terms\n")) {
                terms.append(plain(part.substring("Terms\n".length())));
            } else if (part.startsWith("What it is\n")) {
                terms.append(plain(part.substring(part.indexOf("An object is used")))).append(' ');
            }
        }
        return terms;
    }

    private static void quotesStand(List<Method> tests, TreeMap<Integer, String> promises, String terms) {
        for (Method test : tests) {
            String promise = promises.get(promise(test));
            if (promise == null || !promise.contains(says(test)) && !terms.contains(says(test))) {
                WRONG.add(told(test) + ": the document doesn't say so");
            }
        }
    }

    /** Each sentence of each promise is quoted, as a whole, by a test that tells that promise's number. */
    private static void sentencesAreTested(List<Method> tests, TreeMap<Integer, String> promises) {
        if (promises.size() != 49) {
            WRONG.add("the document has " + promises.size() + " promises, not 49");
        }
        promises.forEach((number, text) -> {
            for (String sentence : text.split("(?<=\\.) (?=[A-Z-])")) {
                if (tests.stream().noneMatch(t -> promise(t) == number && says(t).contains(sentence))) {
                    WRONG.add("promise " + number + ": no test of \"" + sentence + "\"");
                }
            }
        });
    }

    /** What of the terms no test quotes names no boundary case. */
    private static void termsAreTested(List<Method> tests, StringBuilder terms) {
        StringBuilder left = new StringBuilder(terms);
        for (Method test : tests) {
            int at = terms.indexOf(says(test));
            for (int i = 0; at >= 0 && i < says(test).length(); i++) {
                left.setCharAt(at + i, '\n');
            }
        }
        for (String run : left.toString().split("\n+")) {
            if (EDGE.matcher(run.replaceAll("==== [IV]+\\.", "")).find()) {
                WRONG.add("the terms: no test of \"" + run.trim() + "\"");
            }
        }
    }
}
