import java.lang.reflect.Method;
import java.lang.reflect.Modifier;
import java.nio.file.Files;
import java.nio.file.Path;
import java.util.Arrays;
import java.util.HashMap;
import java.util.List;
import java.util.Map;
import java.util.Set;
import java.util.TreeSet;
import java.util.regex.Matcher;
import java.util.regex.Pattern;

// What README.md says of the calls: its example gives the answers beside it, and its table has every call.
public final class ReadmeTest {
    private static final Pattern EXAMPLE = Pattern.compile("(?s)```java\n(.*?)```");
    private static final Pattern CALL = Pattern.compile("(?:int (\\w+) = )?x\\.(\\w+)\\(([^)]*)\\); +// (-?\\d+)(?:: .*)?");
    private static final Pattern ROW = Pattern.compile("(?m)^\\| `(\\w+)\\(([^)]*)\\)` \\|");
    private static int wrong = 0;

    public static void main(String[] args) throws Exception {
        String readme = Files.readString(Path.of("README.md"));
        Set<String> played = playExample(readme);
        due("the example has every call: " + played, played.equals(publicCalls()));
        Set<String> rows = tableRows(readme);
        due("the table has every call and no other: " + rows, rows.equals(publicCalls()));
        due("README.md says how to run the tests", readme.contains("\n.ci/run\n"));
        System.out.println(wrong == 0 ? "README.md is as due" : wrong + " things in README.md are not as due");
        if (wrong != 0) {
            System.exit(1);
        }
    }

    private static void due(String what, boolean holds) {
        if (!holds) {
            wrong++;
            System.out.println("not as due: " + what);
        }
    }

    // Answers which calls the example has.
    private static Set<String> playExample(String readme) throws Exception {
        Set<String> played = new TreeSet<>();
        Matcher example = EXAMPLE.matcher(readme);
        due("there is an example", example.find());
        List<String> lines = example.group(1).lines().filter(line -> !line.isBlank()).toList();
        due("the example begins with a new object", lines.get(0).equals("PatternTrees x = new PatternTrees();"));
        PatternTrees x = new PatternTrees();
        Map<String, Integer> names = new HashMap<>();
        for (String line : lines.subList(1, lines.size())) {
            Matcher call = CALL.matcher(line);
            if (!call.matches()) {
                due("a call with its answer: " + line, false);
                continue;
            }
            Object[] arguments = numbers(call.group(3), names);
            int got = answer(x, call.group(2), arguments);
            due(line + " (answered " + got + ")", got == Integer.parseInt(call.group(4)));
            played.add(call.group(2) + "/" + arguments.length);
            if (call.group(1) != null) {
                names.put(call.group(1), got);
            }
        }
        return played;
    }

    private static Object[] numbers(String list, Map<String, Integer> names) {
        String[] words = list.isEmpty() ? new String[0] : list.split(", ");
        Object[] found = new Object[words.length];
        for (int i = 0; i < words.length; i++) {
            found[i] = names.containsKey(words[i]) ? names.get(words[i]) : Integer.valueOf(words[i]);
        }
        return found;
    }

    private static int answer(PatternTrees x, String name, Object[] arguments) throws Exception {
        Class<?>[] types = new Class<?>[arguments.length];
        Arrays.fill(types, int.class);
        return (int) PatternTrees.class.getMethod(name, types).invoke(x, arguments);
    }

    private static Set<String> tableRows(String readme) {
        Set<String> rows = new TreeSet<>();
        Matcher row = ROW.matcher(readme);
        while (row.find()) {
            int arguments = row.group(2).isEmpty() ? 0 : row.group(2).split(", ").length;
            rows.add(row.group(1) + "/" + arguments);
        }
        return rows;
    }

    private static Set<String> publicCalls() {
        Set<String> calls = new TreeSet<>();
        for (Method m : PatternTrees.class.getDeclaredMethods()) {
            if (Modifier.isPublic(m.getModifiers())) {
                calls.add(m.getName() + "/" + m.getParameterCount());
            }
        }
        return calls;
    }
}
