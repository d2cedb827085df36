import java.io.IOException;
import java.lang.reflect.InvocationTargetException;
import java.lang.reflect.Method;
import java.nio.file.Files;
import java.nio.file.Path;
import java.util.List;
import java.util.Set;
import java.util.TreeSet;
import java.util.regex.Matcher;
import java.util.regex.Pattern;
import java.util.stream.Stream;

/** README.md: its run of calls answers as it says, and it names the command and all tests. */
public final class ReadmeTest {
    private static final Pattern CALL = Pattern.compile("x\\.(\\w+)\\((.*)\\); +// (-?\\d+)[:,] .*");

    private ReadmeTest() {
    }

    public static void main(String[] args) throws IOException {
        String page = Files.readString(Path.of("README.md"));
        run(page);
        commandAndTests(page);
        Runs.close();
    }

    private static void holds(String what, boolean is) {
        Runs.due(what, is ? 1 : 0, 1);
    }

    /** What stands between the first line that is the head and the next one that closes. */
    private static List<String> block(String page, String head) {
        int from = page.indexOf(head + "\n");
        int till = page.indexOf("\n```\n", Math.max(from, 0));
        holds("a block " + head, from >= 0 && till > from);
        return from < 0 || till < from ? List.of() : page.substring(from + head.length() + 1, till).lines().toList();
    }

    private static void run(String page) {
        Runs.about("README.md, the run of calls");
        CarriedBack x = new CarriedBack();
        Set<String> named = new TreeSet<>();
        int refused = 0;
        for (String line : block(page, "```java")) {
            if (line.isEmpty() || line.startsWith("// ") || line.equals("CarriedBack x = new CarriedBack();")) {
                continue;
            }
            Matcher call = CALL.matcher(line);
            holds("a call with its answer: " + line, call.matches());
            if (call.matches()) {
                int due = Integer.parseInt(call.group(3));
                Runs.due(line, asked(x, call.group(1), call.group(2)), due);
                named.add(call.group(1));
                refused += due <= CarriedBack.UNKNOWN ? 1 : 0;
            }
        }
        holds("what it shows: " + named, named.containsAll(List.of("feed", "trunk", "cut", "pick", "release")));
        holds("a refused call", refused > 0);
    }

    private static int asked(CarriedBack x, String name, String list) {
        String[] words = list.isEmpty() ? new String[0] : list.split(", ");
        for (Method m : CarriedBack.class.getMethods()) {
            if (m.getName().equals(name) && m.getParameterCount() == words.length) {
                Object[] values = new Object[words.length];
                for (int k = 0; k < words.length; k++) {
                    long value = Long.decode(words[k].replace("L", ""));
                    if (m.getParameterTypes()[k] == long.class) {
                        values[k] = value;
                    } else {
                        values[k] = (int) value;
                    }
                }
                return answer(m, x, values);
            }
        }
        throw new IllegalArgumentException("no such call: " + name + "(" + list + ")");
    }

    private static int answer(Method m, CarriedBack x, Object[] values) {
        try {
            return (Integer) m.invoke(x, values);
        } catch (IllegalAccessException | InvocationTargetException e) {
            throw new IllegalStateException(m.getName(), e);
        }
    }

    private static void commandAndTests(String page) throws IOException {
        Runs.about("README.md, its tests");
        holds("the one command", block(page, "```sh").equals(List.of(".ci/run")));
        holds("it can be run", Files.isExecutable(Path.of(".ci/run")));
        try (Stream<Path> files = Files.list(Path.of("src/test/java"))) {
            for (Path one : files.sorted().toList()) {
                String name = one.getFileName().toString().replace(".java", "");
                if (name.endsWith("Test")) {
                    holds("it tells of " + name, page.contains("`" + name + "`"));
                }
            }
        }
    }
}
