import java.io.IOException;
import java.lang.reflect.Method;
import java.lang.reflect.Modifier;
import java.nio.charset.StandardCharsets;
import java.nio.file.Files;
import java.nio.file.Path;
import java.util.ArrayList;
import java.util.LinkedHashMap;
import java.util.List;
import java.util.Map;
import java.util.TreeSet;
import java.util.regex.Matcher;
import java.util.regex.Pattern;

/** What README.md says of the class holds; it is run where README.md lies. */
public final class ReadmeTest extends ByHand {
    private static List<String> readme = new ArrayList<>();
    private static List<String> source = new ArrayList<>();

    public static void main(String[] args) throws IOException {
        readme = Files.readAllLines(Path.of("README.md"), StandardCharsets.UTF_8);
        source = Files.readAllLines(Path.of("src/test/java/ReadmeTest.java"), StandardCharsets.UTF_8);
        edge("the example is the one that is run here", ReadmeTest::exampleIsRun);
        edge("the example answers what stands behind it", ReadmeTest::exampleAnswers);
        edge("each text is read by the calls beside it", ReadmeTest::textsAreRead);
        edge("every call is named", ReadmeTest::callsAreNamed);
        end("ReadmeTest");
    }

    static void feed(StockEvents store, String text) {
        for (int i = 0; i < text.length(); i++) {
            store.feed(text.charAt(i));
        }
    }

    private static Map<String, Integer> example() {
        StockEvents store = new StockEvents();
        feed(store, "open 7");
        int opened = store.ask(0, 0, 5);
        feed(store, "put 50");
        int put = store.ask(0, 1, 6);
        feed(store, "put 50");
        int again = store.ask(0, 1, 6);
        feed(store, "put 50");
        int late = store.ask(0, 1, 7);
        feed(store, "take 60");
        int refused = store.ask(0, -1, 0);
        feed(store, "take 5x");
        int fault = store.ask(0, -1, 0);
        int stock = store.state(0, 1);

        feed(store, "sum of put+got by stream if a>5");
        int told = store.project(0);
        int handled = store.deliver(0, 0, 1, 240);
        int sum = store.row(0, 0, 0);

        Map<String, Integer> answers = new LinkedHashMap<>();
        answers.put("opened", opened);
        answers.put("put", put);
        answers.put("again", again);
        answers.put("late", late);
        answers.put("refused", refused);
        answers.put("fault", fault);
        answers.put("stock", stock);
        answers.put("told", told);
        answers.put("handled", handled);
        answers.put("sum", sum);
        return answers;
    }

    /** The lines of Java in README.md. */
    private static List<String> shown() {
        List<String> shown = new ArrayList<>();
        boolean inside = false;
        for (String line : readme) {
            if (line.startsWith("```")) {
                inside = line.equals("```java");
            } else if (inside && !line.isBlank()) {
                shown.add(line);
            }
        }
        return shown;
    }

    private static void exampleIsRun() {
        int from = 0;
        for (String line : shown()) {
            String code = line.replaceAll(" +//.*", "").trim();
            while (from < source.size() && !source.get(from).trim().equals(code)) {
                from++;
            }
            due(code + " stands in the test behind the line ahead of it", from < source.size() ? 1 : 0, 1);
        }
    }

    private static void exampleAnswers() {
        Map<String, Integer> answers = example();
        Pattern told = Pattern.compile("int (\\w+) = .* // (-?\\d+).*");
        int found = 0;
        for (String line : shown()) {
            Matcher matcher = told.matcher(line);
            if (matcher.matches() && answers.containsKey(matcher.group(1))) {
                found++;
                due(line, answers.get(matcher.group(1)), Integer.parseInt(matcher.group(2)));
            }
        }
        due("answers that are told", found, answers.size());
    }

    private static List<String> quoted(String text) {
        List<String> quoted = new ArrayList<>();
        Matcher matcher = Pattern.compile("`([^`]+)`").matcher(text);
        while (matcher.find()) {
            quoted.add(matcher.group(1));
        }
        return quoted;
    }

    private static void textsAreRead() {
        boolean inside = false;
        int found = 0;
        for (String line : readme) {
            inside = line.startsWith("### ") ? line.equals("### Which call reads which text") : inside;
            if (!inside || !line.startsWith("| `")) {
                continue;
            }
            String[] columns = line.split("\\|");
            for (String call : quoted(columns[1])) {
                for (String text : quoted(columns[2])) {
                    found++;
                    due(call + " of " + text, isRead(call, text) ? 1 : 0, 1);
                }
            }
        }
        due("calls and texts", found, 28);
    }

    /** Whether a call reads a text without a fault, and only as far as it goes. */
    private static boolean isRead(String call, String text) {
        return !isFault(answer(call, text)) && isFault(answer(call, text + "?"));
    }

    private static boolean isFault(long answer) {
        return answer <= -100 && answer >= -260 || answer >= Long.MIN_VALUE + 100 && answer <= Long.MIN_VALUE + 260;
    }

    private static long answer(String call, String text) {
        Counted x = two();
        x.see(0, 0);
        project(x, 0, "sum of all by none");
        type(x, text);
        switch (call) {
            case "ask":
                return x.ask(0, -1, 0);
            case "attempt":
                return x.attempt(0, 0);
            case "batch":
                return x.batch();
            case "foresee":
                return x.foresee(0, 0);
            case "upcast":
                return x.upcast();
            case "project":
                return x.project(0);
            case "rebuild":
                return x.rebuild(0);
            case "policy":
                return x.policy(0);
            case "harmless":
                return x.harmless();
            case "watch":
                return x.watch(0, 1);
            default:
                throw new IllegalStateException("no call that reads a text: " + call);
        }
    }

    private static void callsAreNamed() {
        TreeSet<String> named = new TreeSet<>(quoted(String.join(" ", readme).replaceAll("```.*?```", "")));
        for (Method method : StockEvents.class.getDeclaredMethods()) {
            if (Modifier.isPublic(method.getModifiers())) {
                due(method.getName() + " is named", named.contains(method.getName()) ? 1 : 0, 1);
            }
        }
    }
}
