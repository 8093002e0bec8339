import java.io.IOException;
import java.lang.reflect.Method;
import java.lang.reflect.Modifier;
import java.nio.charset.StandardCharsets;
import java.util.ArrayList;
import java.util.Arrays;
import java.util.List;
import java.util.Set;
import java.util.TreeSet;
import java.util.regex.Matcher;
import java.util.regex.Pattern;

/** Makes the calls that README.md shows and looks whether they answer what it says; .ci/run hands it README.md. */
public final class ReadmeTests {
    private static final String NEW_OBJECT = "SimilarityJoin join = new SimilarityJoin();";
    private static final Pattern CALL = Pattern.compile("join\\.(\\w+)\\(([-0-9, ]*)\\); +// (-?\\d+)(: .+)?");
    private static final Pattern RECORD = Pattern.compile("record (\\d+) is \\{([0-9, ]+)\\}");
    private static final Pattern DRAFT = Pattern.compile("the draft is \\{([0-9, ]+)\\}");

    private static int[] numbers(String listed) {
        return Arrays.stream(listed.split(","))
            .map(String::strip)
            .filter(number -> !number.isEmpty())
            .mapToInt(Integer::parseInt)
            .toArray();
    }

    /** The lines of README.md that stand between ```java and ```. */
    private static List<String> shownLines(String readme) {
        List<String> shown = new ArrayList<>();
        boolean inside = false;
        for (String line : readme.lines().toList()) {
            if (line.startsWith("```")) {
                inside = line.equals("```java");
            } else if (inside && !line.isBlank()) {
                shown.add(line.strip());
            }
        }
        return shown;
    }

    private static Set<String> methodNames() {
        Set<String> names = new TreeSet<>();
        for (Method method : SimilarityJoin.class.getDeclaredMethods()) {
            if (Modifier.isPublic(method.getModifiers())) {
                names.add(method.getName());
            }
        }
        return names;
    }

    private static void dueWords(Run join, List<Call> before, String words) {
        Matcher record = RECORD.matcher(words);
        if (record.find()) {
            join.dueRecord(Integer.parseInt(record.group(1)), numbers(record.group(2)));
        }
        Matcher draft = DRAFT.matcher(words);
        if (draft.find()) {
            // Looking at the draft empties it, so another object is looked at.
            Run same = new Run();
            same.callAll(before);
            same.dueDraft(numbers(draft.group(1)));
        }
    }

    private static void callsAnswerWhatIsSaid(List<String> lines) {
        Due.same("the first line shown", lines.isEmpty() ? "" : lines.get(0), NEW_OBJECT);
        Run join = new Run();
        List<Call> made = new ArrayList<>();
        Set<String> notShown = methodNames();
        for (String line : lines.subList(Math.min(1, lines.size()), lines.size())) {
            Matcher shown = CALL.matcher(line);
            if (shown.matches()) {
                Call call = new Call(shown.group(1), numbers(shown.group(2)));
                made.add(call);
                notShown.remove(call.method());
                Due.same(call + " in README.md", join.call(call), Integer.parseInt(shown.group(3)));
                dueWords(join, made, line);
            } else {
                Due.same("words or a call with its answer is: " + line, line.startsWith("// "), true);
            }
        }
        Due.same("methods that README.md doesn't show", notShown, Set.of());
    }

    public static void main(String[] args) throws IOException {
        String readme = new String(System.in.readAllBytes(), StandardCharsets.UTF_8);
        Due.sentence("README.md: the calls that it shows answer what it says they answer",
            () -> callsAnswerWhatIsSaid(shownLines(readme)));
        Due.end();
    }
}
