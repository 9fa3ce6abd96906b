import java.io.IOException;
import java.lang.reflect.Constructor;
import java.lang.reflect.Field;
import java.lang.reflect.Method;
import java.lang.reflect.Modifier;
import java.nio.file.Files;
import java.nio.file.Path;
import java.util.ArrayList;
import java.util.Arrays;
import java.util.List;
import java.util.Set;
import java.util.TreeSet;
import java.util.regex.Matcher;
import java.util.regex.Pattern;
import java.util.stream.Collectors;

/** The rules of LANGUAGE.md that can be seen from outside the class, or in its source. */
public final class RulesTest {
    private static final Checks CHECKS = new Checks();

    /* As told() tells a method. */
    private static final List<String> FACE = new ArrayList<>();

    public static void main(String[] args) throws IOException {
        String source = Files.readString(Path.of("src/main/java/ClothesHorses.java"));
        readFace(Files.readString(Path.of("../shared/DOC.md")));
        face();
        insides();
        words(bare(source));
        lengths(source);
        CHECKS.finish("RulesTest");
    }

    private static void rule(String rule, boolean kept) {
        CHECKS.due(rule, kept, true);
    }

    /** The methods that the document has under "The public face". */
    private static void readFace(String document) {
        Matcher method = Pattern.compile("(?m)^    public (int|long|boolean) (\\w+)\\(([^)]*)\\);").matcher(document);
        while (method.find()) {
            FACE.add(method.group(1) + " " + method.group(2) + "(" + method.group(3).replaceAll(" \\w+(, )?", ",").replaceAll(",$", "") + ")");
        }
        rule("the face has 48 methods beside the constructor", FACE.size() == 48);
    }

    private static String told(Method method) {
        return method.getReturnType().getSimpleName() + " " + method.getName()
            + Arrays.stream(method.getParameterTypes()).map(Class::getSimpleName).collect(Collectors.joining(",", "(", ")"));
    }

    private static void face() {
        Class<?> c = ClothesHorses.class;
        rule("rule 1: public and final", Modifier.isPublic(c.getModifiers()) && Modifier.isFinal(c.getModifiers()));
        Set<String> open = new TreeSet<>();
        for (Method method : c.getDeclaredMethods()) {
            if (!Modifier.isPrivate(method.getModifiers())) {
                rule("rule 1: " + method + " is public and not static", method.getModifiers() == Modifier.PUBLIC);
                open.add(told(method));
            }
        }
        rule("rule 1: the methods of the document and no other: " + open, open.equals(new TreeSet<>(FACE)));
        Constructor<?>[] constructors = c.getDeclaredConstructors();
        rule("rule 1: one constructor", constructors.length == 1 && constructors[0].getParameterCount() == 0
            && constructors[0].getModifiers() == Modifier.PUBLIC);
        for (Field field : c.getDeclaredFields()) {
            boolean isNone = field.getName().equals("NONE") && field.getType() == int.class
                && field.getModifiers() == (Modifier.PUBLIC | Modifier.STATIC | Modifier.FINAL);
            rule("rule 1: " + field + " is private or NONE", isNone || Modifier.isPrivate(field.getModifiers()));
        }
    }

    private static void insides() {
        Set<String> names = FACE.stream().map(f -> f.replaceAll("^\\w+ |\\(.*", "")).collect(Collectors.toSet());
        Class<?>[] inside = ClothesHorses.class.getDeclaredClasses();
        rule("rule 11: some twelve classes", inside.length <= 11);
        for (Class<?> c : inside) {
            rule("rule 2: " + c + " is static and not public",
                Modifier.isStatic(c.getModifiers()) && !Modifier.isPublic(c.getModifiers()) && !Modifier.isProtected(c.getModifiers()));
            rule("rule 2: nothing is inside " + c, c.getDeclaredClasses().length == 0);
            for (Method method : c.getDeclaredMethods()) {
                rule("rule 1: " + method + " has a name of its own", !names.contains(method.getName()));
            }
            check(c);
        }
        for (Method method : ClothesHorses.class.getDeclaredMethods()) {
            rule("rule 1: " + method + " has a name of its own",
                Modifier.isPublic(method.getModifiers()) || !names.contains(method.getName()));
        }
        check(ClothesHorses.class);
    }

    private static void check(Class<?> c) {
        int fields = 0;
        for (Field field : c.getDeclaredFields()) {
            if (Modifier.isStatic(field.getModifiers())) {
                rule("rule 5: " + field, Modifier.isFinal(field.getModifiers())
                    && (field.getType() == int.class || field.getType() == String.class));
            } else {
                fields++;
            }
        }
        rule("rule 11: the fields of " + c, fields <= 20);
        for (Method method : c.getDeclaredMethods()) {
            rule("rule 11: the parameters of " + method, method.getParameterCount() <= 7);
            rule("rules 2, 6, 10: nothing of the compiler's in " + c, !method.isSynthetic());
        }
    }

    /** The source without comments, and with empty texts. */
    private static String bare(String source) {
        return source.replaceAll("(?s)/\\*.*?\\*/", "").replaceAll("//[^\n]*", "").replaceAll("\"[^\"\n]*\"", "\"\"");
    }

    private static void words(String bare) {
        for (String word : List.of("throw", "throws", "try", "catch", "finally", "synchronized", "assert", "double",
            "float", "yield", "record", "var", "volatile", "native", "hashCode", "toString", "Object", "Exact",
            "random", "Thread", "null\\.", "System\\.(?!arraycopy)", "Integer\\.(?!bitCount)", "protected")) {
            rule("no " + word, !Pattern.compile("\\b" + word + (word.endsWith(")") || word.endsWith(".") ? "" : "\\b")).matcher(bare).find());
        }
        rule("rule 2: no lambda", !bare.contains("->"));
        rule("rule 2: no method reference", !bare.contains("::"));
        rule("rule 10: no texts joined by +", !Pattern.compile("\"\"\\s*\\+|\\+\\s*\"\"").matcher(bare).find());
        Matcher imports = Pattern.compile("import ([^;]+);").matcher(bare);
        while (imports.find()) {
            rule("rule 4: import " + imports.group(1), imports.group(1).equals("java.util.Arrays"));
        }
        rule("no package line", !Pattern.compile("\\bpackage\\b").matcher(bare).find());
        Matcher math = Pattern.compile("\\b(Math|Arrays)\\.(\\w+)").matcher(bare);
        while (math.find()) {
            rule("rule 4: " + math.group(), Set.of("max", "min", "floorDiv", "fill", "copyOf").contains(math.group(2)));
        }
        Matcher whiles = Pattern.compile("(while|for) \\((.*)\\) \\{").matcher(bare);
        while (whiles.find()) {
            rule("rule 9: " + whiles.group(), whiles.group(2).contains("<") || whiles.group(2).contains(">"));
        }
        rule("only signs 1 to 127", bare.chars().allMatch(sign -> sign >= 1 && sign <= 127));
    }

    private static void lengths(String source) {
        String[] lines = source.split("\n");
        int begin = -1;
        String indent = "";
        for (int i = 0; i < lines.length; i++) {
            Matcher head = Pattern.compile("^(    |        )[\\w\\[\\] ]+\\(.*\\{$").matcher(lines[i]);
            if (head.find() && !lines[i].contains(" class ")) {
                begin = i;
                indent = head.group(1);
            } else if (begin >= 0 && lines[i].equals(indent + "}")) {
                rule("rule 11: the length of" + lines[begin], i - begin < 60);
                begin = -1;
            }
        }
    }
}
