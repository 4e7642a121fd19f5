import java.lang.reflect.Method;
import java.lang.reflect.Modifier;
import java.nio.file.Files;
import java.nio.file.Path;
import java.util.ArrayList;
import java.util.List;
import java.util.TreeSet;
import java.util.regex.Matcher;
import java.util.regex.Pattern;
import java.util.stream.Stream;

/** README.md: each call on it answers what it says there, the command for the tests is there, and each test is told. */
public final class ReadmeTest {
    private static final String README = "README.md", TESTS = "src/test/java", COMMAND = ".ci/run";
    private static final Pattern CALL = Pattern.compile("hall\\.(\\w+)\\((.*?)\\); +// (-?\\d+): \\S.*");

    public static void main(String[] args) throws Exception {
        Due d = new Due("ReadmeTest");
        calls(d);
        command(d);
        tests(d);
        d.end();
    }

    private static void calls(Due d) throws Exception {
        TongueTip hall = new TongueTip();
        TreeSet<String> used = new TreeSet<>();
        for (String line : blocks("java")) {
            Matcher m = CALL.matcher(line);
            if (m.matches()) {
                used.add(m.group(1));
                d.due(line, answer(hall, m.group(1), m.group(2)), Long.parseLong(m.group(3)));
            } else {
                d.due("a call, or the new object: " + line, line.equals("TongueTip hall = new TongueTip();") ? 1 : 0, 1);
            }
        }
        for (Method method : TongueTip.class.getDeclaredMethods()) {
            if (Modifier.isPublic(method.getModifiers())) {
                d.due("README.md shows " + method.getName(), used.contains(method.getName()) ? 1 : 0, 1);
            }
        }
    }

    private static long answer(TongueTip hall, String name, String told) throws Exception {
        for (Method method : TongueTip.class.getMethods()) {
            if (method.getName().equals(name)) {
                String[] words = told.isEmpty() ? new String[0] : told.split(", ");
                Object[] values = new Object[words.length];
                for (int i = 0; i < words.length; i++) {
                    long v = Long.decode(words[i].replace("L", ""));
                    values[i] = method.getParameterTypes()[i] == long.class ? (Object) v : (Object) (int) v;
                }
                return ((Number) method.invoke(hall, values)).longValue();
            }
        }
        return Long.MIN_VALUE;
    }

    /** The lines of all blocks of this kind. */
    private static List<String> blocks(String kind) throws Exception {
        List<String> lines = new ArrayList<>();
        Matcher m = Pattern.compile("(?s)```" + kind + "\n(.*?)\n```").matcher(Files.readString(Path.of(README)));
        while (m.find()) {
            lines.addAll(List.of(m.group(1).split("\n")));
        }
        return lines;
    }

    private static void command(Due d) throws Exception {
        d.due("the command for the tests", blocks("sh").contains("bash " + COMMAND) ? 1 : 0, 1);
        d.due("what it runs is there", Files.isReadable(Path.of(COMMAND)) ? 1 : 0, 1);
        for (String line : blocks("sh")) {
            for (String word : line.split(" ")) {
                if (word.endsWith(".java") && !word.contains("*")) {
                    d.due("in a command: " + word, Files.exists(Path.of(word)) ? 1 : 0, 1);
                }
            }
        }
    }

    private static void tests(Due d) throws Exception {
        String readme = Files.readString(Path.of(README));
        try (Stream<Path> files = Files.list(Path.of(TESTS))) {
            for (Path file : files.sorted().toList()) {
                String name = file.getFileName().toString().replace(".java", "");
                if (name.endsWith("Test")) {
                    d.due("README.md tells " + name, readme.contains("| `" + name + "` | ") ? 1 : 0, 1);
                }
            }
        }
        Matcher m = Pattern.compile("(?m)^\\| `(\\w+)` \\|").matcher(readme);
        while (m.find()) {
            d.due("there is " + m.group(1), Files.exists(Path.of(TESTS, m.group(1) + ".java")) ? 1 : 0, 1);
        }
    }
}
