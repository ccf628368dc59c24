import java.lang.reflect.Method;
import java.nio.file.Files;
import java.nio.file.Path;
import java.util.Map;
import java.util.regex.Matcher;
import java.util.regex.Pattern;

/** The runs of calls that README.md shows answer what it writes behind them. */
public final class ReadmeTest {
    private static final Pattern RUN = Pattern.compile("(?s)```java\n(.*?)```");
    private static final Pattern TEXT = Pattern.compile("String text = \"([^\"]*)\";");
    private static final Pattern CALL = Pattern.compile("(?m)^x\\.(\\w+)\\(([^)]*)\\);\\s*// (-?\\d+|[A-Z]+)\\b");
    private static final Map<String, Integer> NAMES = Map.of("NONE", MovedStones.NONE, "UNKNOWN", MovedStones.UNKNOWN,
        "OUTSIDE", MovedStones.OUTSIDE, "NOT", MovedStones.NOT, "FULL", MovedStones.FULL);

    public static void main(String[] args) throws Exception {
        String readme = Files.readString(Path.of(System.getProperty("readme", "README.md")));
        Matcher run = RUN.matcher(readme);
        int runs = 0;
        while (run.find()) {
            runs++;
            play(run.group(1));
        }
        Check.due("runs of calls in README.md", runs, 2);
        Check.due("README.md does not name the command of the tests", readme.contains("\n    .ci/run\n"));
        Check.end();
    }

    private static void play(String run) throws Exception {
        MovedStones x = new MovedStones();
        Matcher text = TEXT.matcher(run);
        Check.due("README.md: a run without a text", text.find());
        Check.feed(x, text.group(1));
        Matcher call = CALL.matcher(run);
        int calls = 0;
        while (call.find()) {
            calls++;
            String shown = call.group(1) + "(" + call.group(2) + ")";
            Check.due("README.md: " + shown, answer(x, call.group(1), call.group(2)), number(call.group(3)));
        }
        Check.due("README.md: calls without an answer that can be read", calls, run.split("\nx\\.").length - 1);
    }

    private static int answer(MovedStones x, String name, String list) throws Exception {
        String[] words = list.isEmpty() ? new String[0] : list.split(", ");
        Object[] given = new Object[words.length];
        for (Method method : MovedStones.class.getMethods()) {
            if (method.getName().equals(name) && method.getParameterCount() == words.length) {
                for (int i = 0; i < words.length; i++) {
                    boolean yesNo = method.getParameterTypes()[i] == boolean.class;
                    given[i] = yesNo ? (Object) words[i].equals("true") : (Object) number(words[i]);
                }
                return (int) method.invoke(x, given);
            }
        }
        Check.due("README.md: there is no call " + name + "(" + list + ")", false);
        return 0;
    }

    private static int number(String word) {
        Integer named = NAMES.get(word.replace("MovedStones.", ""));
        return named != null ? named : Integer.parseInt(word);
    }
}
