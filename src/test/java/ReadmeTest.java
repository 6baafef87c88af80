import java.io.IOException;
import java.lang.reflect.Method;
import java.lang.reflect.Modifier;
import java.nio.file.Files;
import java.nio.file.Path;
import java.util.List;
import java.util.Map;
import java.util.Set;
import java.util.TreeMap;
import java.util.TreeSet;
import java.util.regex.Matcher;
import java.util.regex.Pattern;
import java.util.stream.Stream;

/** What README.md shows holds: its calls have the answers it tells, and it leaves out no method and no test. */
public final class ReadmeTest {
    private static final Due due = new Due("ReadmeTest");
    private static final String NEW_OBJECT = "TripleJoins x = new TripleJoins();";
    /** x.name(arguments); // answer, or // answer: and a remark. */
    private static final Pattern CALL = Pattern.compile("x\\.(\\w+)\\((.*)\\); +// (-?\\d+)(:.*)?");
    private static final Pattern TABLE_ROW = Pattern.compile("\\| `(\\w+)\\((.*?)\\)` \\|.*");
    private static final Pattern NAMED_TEST = Pattern.compile("`(\\w+Test)`");

    public static void main(String[] args) throws IOException {
        List<String> lines = Files.readAllLines(Path.of("README.md"));
        eachShownCallAnswersAsTold(lines);
        eachMethodHasItsRow(lines);
        eachTestIsNamed(lines);
        theNamedScriptIsThere(lines);
        due.end();
    }

    private static void eachShownCallAnswersAsTold(List<String> lines) {
        Set<String> shown = new TreeSet<>();
        Calls x = null;
        boolean inCode = false;
        for (String line : lines) {
            if (line.startsWith("```")) {
                inCode = line.equals("```java");
            } else if (inCode && line.equals(NEW_OBJECT)) {
                x = new Calls(due);
            } else if (inCode && !line.isBlank()) {
                Matcher call = CALL.matcher(line);
                boolean read = x != null && call.matches();
                due.holds("the line can be read: " + line, read);
                if (read) {
                    shown.add(call.group(1));
                    x.is(words(call.group(1), call.group(2)), Integer.parseInt(call.group(3)));
                }
            }
        }
        due.holds("each method is shown in use, not only " + shown, shown.equals(methods().keySet()));
    }

    /** The call as Calls reads it, with each argument worked out. */
    private static String words(String method, String arguments) {
        StringBuilder words = new StringBuilder(method);
        for (String argument : arguments.isEmpty() ? new String[0] : arguments.split(",")) {
            words.append(' ').append(sum(argument));
        }
        return words.toString();
    }

    private static int sum(String terms) {
        int sum = 0;
        for (String term : terms.split("\\+")) {
            int product = 1;
            for (String factor : term.split("\\*")) {
                product *= Integer.parseInt(factor.trim());
            }
            sum += product;
        }
        return sum;
    }

    private static Map<String, Integer> methods() {
        Map<String, Integer> methods = new TreeMap<>();
        for (Method method : TripleJoins.class.getDeclaredMethods()) {
            if (Modifier.isPublic(method.getModifiers())) {
                methods.put(method.getName(), method.getParameterCount());
            }
        }
        return methods;
    }

    private static void eachMethodHasItsRow(List<String> lines) {
        Map<String, Integer> rows = new TreeMap<>();
        for (String line : lines) {
            Matcher row = TABLE_ROW.matcher(line);
            if (row.matches()) {
                int parameters = row.group(2).isEmpty() ? 0 : row.group(2).split(",").length;
                due.holds("one row for " + row.group(1), rows.put(row.group(1), parameters) == null);
            }
        }
        due.holds("the tables have the methods of the class, not " + rows, rows.equals(methods()));
    }

    private static void eachTestIsNamed(List<String> lines) throws IOException {
        Set<String> named = new TreeSet<>();
        for (String line : lines) {
            Matcher test = NAMED_TEST.matcher(line);
            while (test.find()) {
                named.add(test.group(1));
            }
        }
        Set<String> there = new TreeSet<>();
        try (Stream<Path> files = Files.list(Path.of("src/test/java"))) {
            files.map(file -> file.getFileName().toString()).filter(name -> name.endsWith("Test.java"))
                .forEach(name -> there.add(name.substring(0, name.length() - ".java".length())));
        }
        due.holds("the tests are " + there + ", as named", named.equals(there));
    }

    private static void theNamedScriptIsThere(List<String> lines) {
        due.holds("the script is named", lines.contains("    .ci/run"));
        due.holds("the script can be run", Files.isExecutable(Path.of(".ci/run")));
    }
}
