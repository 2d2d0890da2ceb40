import java.io.IOException;
import java.nio.file.Files;
import java.nio.file.Path;
import java.util.regex.Matcher;
import java.util.regex.Pattern;

/** What LANGUAGE.md rules out and a look at the text can find; it is run from the project's root. */
public final class LanguageTest {
    private static final String[] RULED_OUT = {
        "\\bthrows?\\b", "\\btry\\b", "\\bcatch\\b", "\\bfinally\\b", "\\bsynchronized\\b", "\\bassert\\b",
        "->", "::", "\\bpackage\\b", "\\bExact\\b", "\\bSystem\\.(?!arraycopy\\b)", "\\bRandom\\b", "\\bThread\\b",
        "\\bstatic\\s*\\{", "\\bequals\\b", "\\bhashCode\\b", "\\btoString\\b", "\\bimport (?!java\\.util\\.Arrays;)",
        "\\bwhile\\s*\\(\\s*true\\b", "\\bfor\\s*\\(\\s*;\\s*;", "[^\\x00-\\x7F]"
    };
    private static final int LONGEST_METHOD = 60;

    public static void main(String[] args) throws IOException {
        Check check = new Check("LanguageTest");
        String text = Files.readString(Path.of("src", "main", "java", "DecisionWeb.java"));
        String code = text.replaceAll("(?s)/\\*.*?\\*/", "").replaceAll("//[^\n]*", "");
        for (String rule : RULED_OUT) {
            Matcher found = Pattern.compile(rule).matcher(code);
            int times = 0;
            while (found.find()) {
                times++;
            }
            check.due("how often there is " + rule, times, 0);
        }
        checkMethods(check, code);
        check.end();
    }

    private static void checkMethods(Check check, String code) {
        Pattern head = Pattern.compile("(?m)^( +)(?:public|private)[^;=\\n]*\\b(\\w+)\\(([^)]*)\\) \\{$");
        Matcher method = head.matcher(code);
        int methods = 0;
        while (method.find()) {
            methods++;
            int end = code.indexOf("\n" + method.group(1) + "}", method.start());
            long lines = code.substring(method.start(), Math.max(end, method.start())).lines().count();
            check.due(method.group(2) + " is longer than " + LONGEST_METHOD + " lines", lines > LONGEST_METHOD, false);
            check.due(method.group(2) + " has over seven parameters", method.group(3).split(",").length > 7, false);
        }
        check.due("methods were found", methods > 29, true);
    }
}
