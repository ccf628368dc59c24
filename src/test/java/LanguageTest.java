import java.nio.file.Files;
import java.nio.file.Path;
import java.util.regex.Matcher;
import java.util.regex.Pattern;

/** What of LANGUAGE.md can be seen in the source's words. */
public final class LanguageTest {
    private static final String[] FORBIDDEN = {
        "\\bthrow\\b", "\\btry\\b", "\\bcatch\\b", "\\bsynchronized\\b", "\\bassert\\b", "->", "::", "\\bpackage\\b", "\\bprotected\\b",
        "\\bstatic\\s*\\{", "\\bSystem\\.(?!arraycopy\\b)", "\\w+Exact\\b", "\\bThread\\b", "\\bRandom\\b",
        "\\[\\]\\s*\\[\\]\\s*\\[\\]", "\\bimport\\s+(?!java\\.util\\.Arrays;)"};

    public static void main(String[] args) throws Exception {
        String source = Files.readString(Path.of(System.getProperty("source", "src/main/java/MovedStones.java")));
        String code = source.replaceAll("(?s)/\\*.*?\\*/", " ").replaceAll("//[^\n]*", " ");
        for (String word : FORBIDDEN) {
            Matcher found = Pattern.compile(word).matcher(code);
            Check.due("the source has what " + word + " forbids", !found.find());
        }
        Check.due("more than twelve classes", code.split("\\bclass\\s").length - 1 <= 12);
        methods(source);
        Check.end();
    }

    private static void methods(String source) {
        Matcher method = Pattern.compile("(?m)^( {4}| {8})\\w[^;=\n]*\\(([^)\n]*)\\) \\{\n").matcher(source);
        int seen = 0;
        while (method.find()) {
            seen++;
            int end = source.indexOf("\n" + method.group(1) + "}", method.end() - 1);
            String body = source.substring(method.start(), end);
            String head = method.group().trim();
            Check.due(head + " is too long", body.split("\n").length <= 60);
            Check.due(head + " takes too many parameters", method.group(2).split(",").length <= 7);
        }
        Check.due("methods were not found", seen > 60);
    }
}
