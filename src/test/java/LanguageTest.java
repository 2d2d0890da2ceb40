import java.io.IOException;
import java.lang.reflect.Field;
import java.lang.reflect.Modifier;
import java.nio.file.Files;
import java.nio.file.Path;
import java.util.ArrayDeque;
import java.util.Deque;
import java.util.Map;
import java.util.Set;
import java.util.TreeMap;
import java.util.TreeSet;
import java.util.regex.MatchResult;
import java.util.regex.Matcher;
import java.util.regex.Pattern;

/** What LANGUAGE.md rules out and a look at the text can find; it is run from the project's root. */
public final class LanguageTest {
    private static final String[] RULED_OUT = {
        "\\bthrows?\\b", "\\btry\\b", "\\bcatch\\b", "\\bfinally\\b", "\\bsynchronized\\b", "\\bassert\\b",
        "->", "::", "\\bpackage\\b", "\\w*Exact\\b", "\\bstatic\\s*\\{", "\\bequals\\b", "\\bhashCode\\b",
        "\\btoString\\b", "\\bimport (?!java\\.util\\.Arrays;)", "\\bwhile\\s*\\(\\s*true\\b",
        "\\bfor\\s*\\(\\s*;\\s*;", "[^\\x00-\\x7F]", "\\b(?:double|float)\\b", "\\[\\]\\[\\]\\[\\]"
    };
    /** What the class uses of that which rule 4 lets it use. */
    private static final Set<String> LIBRARY =
        Set.of("Arrays.fill", "System.arraycopy", "Math.max", "Math.min", "Long.bitCount");
    private static final int LONGEST_METHOD = 60;
    private static final int MOST_PARAMETERS = 7;
    private static final int DEEPEST_CALL = 8;
    private static final int MOST_CLASSES = 12;
    private static final int MOST_FIELDS = 20;

    private static final Check CHECK = new Check("LanguageTest");

    public static void main(String[] args) throws IOException {
        String text = Files.readString(Path.of("src", "main", "java", "DecisionWeb.java"));
        String code = text.replaceAll("(?s)/\\*.*?\\*/", "").replaceAll("//[^\n]*", "");
        for (String rule : RULED_OUT) {
            CHECK.due("how often there is " + rule, Pattern.compile(rule).matcher(code).results().count(), 0);
        }
        checkLibrary(code);
        checkObjectsMade(code);
        checkClasses();
        Map<String, String> bodies = bodiesOfMethods(code);
        CHECK.due("methods were found", bodies.size() > 29, true);
        for (String name : bodies.keySet()) {
            checkDepth(name, bodies, new ArrayDeque<>());
        }
        CHECK.end();
    }

    private static void checkLibrary(String code) {
        Set<String> own = new TreeSet<>();
        for (Class<?> inside : DecisionWeb.class.getDeclaredClasses()) {
            own.add(inside.getSimpleName());
        }
        Matcher used = Pattern.compile("\\b([A-Z][a-z]\\w*)\\.(\\w+)").matcher(code);
        while (used.find()) {
            boolean known = own.contains(used.group(1)) || LIBRARY.contains(used.group());
            CHECK.due(used.group() + " stands in rule 4", known, true);
        }
    }

    /** One room for a whole run (rule 12): rows are made with the object, and no call makes another. */
    private static void checkObjectsMade(String code) {
        Pattern inField = Pattern.compile("\\s+private (?:final )?[\\w\\[\\]]+ \\w+ = new [^;]*;");
        code.lines().filter(line -> line.matches(".*\\bnew\\b.*")).forEach(
            line -> CHECK.due("made with the object:" + line, inField.matcher(line).matches(), true));
    }

    private static void checkClasses() {
        Class<?>[] inside = DecisionWeb.class.getDeclaredClasses();
        CHECK.due("there are too many classes", inside.length + 1 > MOST_CLASSES, false);
        checkFields(DecisionWeb.class);
        for (Class<?> one : inside) {
            checkFields(one);
        }
    }

    private static void checkFields(Class<?> one) {
        int fields = 0;
        for (Field field : one.getDeclaredFields()) {
            boolean constant = Modifier.isStatic(field.getModifiers());
            CHECK.due(field + " is static and not final", constant && !Modifier.isFinal(field.getModifiers()), false);
            fields += constant ? 0 : 1;
        }
        CHECK.due(one + " has too many fields", fields > MOST_FIELDS, false);
    }

    private static Map<String, String> bodiesOfMethods(String code) {
        Map<String, String> bodies = new TreeMap<>();
        Pattern head = Pattern.compile("(?m)^( +)(?:public|private)[^;=\\n]*\\b(\\w+)\\(([^)]*)\\) \\{$");
        for (MatchResult method : head.matcher(code).results().toList()) {
            int end = code.indexOf("\n" + method.group(1) + "}", method.start());
            String body = code.substring(method.end(), Math.max(end, method.end()));
            String name = method.group(2);
            CHECK.due(name + " is longer than " + LONGEST_METHOD + " lines", body.lines().count() > LONGEST_METHOD, false);
            CHECK.due(name + " has too many parameters", method.group(3).split(",").length > MOST_PARAMETERS, false);
            // or else what calls what could not be told by names
            CHECK.due(name + " is the name of another method too", bodies.put(name, body) != null, false);
        }
        return bodies;
    }

    private static void checkDepth(String name, Map<String, String> bodies, Deque<String> open) {
        CHECK.due(name + " calls itself by way of " + open, open.contains(name), false);
        if (open.contains(name)) {
            return;
        }
        open.addLast(name);
        CHECK.due("deeper than " + DEEPEST_CALL + ": " + open, open.size() > DEEPEST_CALL, false);
        Matcher called = Pattern.compile("\\b(\\w+)\\(").matcher(bodies.get(name));
        while (called.find()) {
            if (bodies.containsKey(called.group(1))) {
                checkDepth(called.group(1), bodies, open);
            }
        }
        open.removeLast();
    }
}
