import java.io.IOException;
import java.lang.reflect.Method;
import java.nio.file.Files;
import java.nio.file.Path;
import java.util.ArrayList;
import java.util.Arrays;
import java.util.List;
import java.util.Set;
import java.util.TreeSet;
import java.util.regex.Matcher;
import java.util.regex.Pattern;

/** README.md: each call stands there in the document's words, and its example answers as it says. */
public final class ReadmeTest {
    private static final Checks CHECKS = new Checks();
    private static final int PROMISES = 24;
    private static final Pattern PROMISE = Pattern.compile("## Promise (\\d+): .*\n\n(`.*)\n");
    private static final Pattern EXAMPLE = Pattern.compile("```java\n(SignBook x = new SignBook\\(\\);\n.*?)```", Pattern.DOTALL);
    private static final Pattern WRITTEN = Pattern.compile("write\\(x, \"([^\"]*)\"\\);");
    private static final Pattern ASKED = Pattern.compile("x\\.(\\w+)\\(([^)]*)\\); +// (-?\\d+)\\b.*");

    public static void main(String[] args) throws Exception {
        String page = Files.readString(Path.of("README.md"));
        callsInTheDocumentsWords(page);
        refusals(page);
        testsAreNamed(page);
        exampleAnswersAsItSays(page);
        CHECKS.end();
    }

    private static void holds(String what, boolean good) {
        CHECKS.due("README.md: " + what, good ? 1 : 0, 1);
    }

    private static void callsInTheDocumentsWords(String page) throws IOException {
        List<String> lines = page.lines().toList();
        Matcher found = PROMISE.matcher(Files.readString(Path.of("../shared/DOC.md")));
        int promises = 0;
        while (found.find()) {
            promises++;
            holds("promise " + found.group(1), lines.contains("- " + found.group(2)));
        }
        CHECKS.due("promises of the document", promises, PROMISES);
    }

    private static void refusals(String page) {
        int[] numbers = {SignBook.NONE, SignBook.UNKNOWN, SignBook.OUTSIDE, SignBook.STATE, SignBook.FULL};
        String[] names = {"NONE", "UNKNOWN", "OUTSIDE", "STATE", "FULL"};
        for (int at = 0; at < numbers.length; at++) {
            holds(names[at], page.contains("| `" + names[at] + "` | " + numbers[at] + " |"));
        }
    }

    private static void testsAreNamed(String page) throws IOException {
        try (var files = Files.list(Path.of("src/test/java"))) {
            for (Path file : files.filter(one -> one.toString().endsWith(".java")).toList()) {
                String name = file.getFileName().toString().replace(".java", "");
                holds("the test " + name, page.contains("`" + name + "`"));
            }
        }
    }

    private static void exampleAnswersAsItSays(String page) throws ReflectiveOperationException {
        Matcher example = EXAMPLE.matcher(page);
        holds("an example", example.find());
        SignBook x = new SignBook();
        Set<String> asked = new TreeSet<>(List.of("letter"));
        for (String line : example.group(1).lines().skip(1).filter(one -> !one.isEmpty()).toList()) {
            Matcher written = WRITTEN.matcher(line);
            Matcher call = ASKED.matcher(line);
            if (written.matches()) {
                holds("an empty page ahead of " + line, x.count(8) == 0);
                Checks.write(x, written.group(1));
            } else if (call.matches()) {
                asked.add(call.group(1));
                CHECKS.due("README.md: " + line, answer(x, call.group(1), call.group(2)), Long.parseLong(call.group(3)));
            } else {
                holds("a line that can be read: " + line, false);
            }
        }
        for (Method method : SignBook.class.getMethods()) {
            if (method.getDeclaringClass() == SignBook.class) {
                holds("the example has " + method.getName(), asked.contains(method.getName()));
            }
        }
    }

    private static long answer(SignBook x, String name, String written) throws ReflectiveOperationException {
        List<Object> with = new ArrayList<>();
        for (String one : written.isEmpty() ? new String[0] : written.split(", ")) {
            with.add(one.matches("-?\\d+") ? (Object) Integer.valueOf(one) : Boolean.valueOf(one));
        }
        Method method = Arrays.stream(SignBook.class.getMethods()).filter(one -> one.getName().equals(name)).findFirst().orElseThrow();
        return ((Number) method.invoke(x, with.toArray())).longValue();
    }
}
