import java.lang.reflect.Method;
import java.lang.reflect.Modifier;
import java.nio.file.Files;
import java.nio.file.Path;
import java.util.Map;
import java.util.TreeMap;
import java.util.regex.Matcher;
import java.util.regex.Pattern;

/** README.md: its calls, made one behind the other, answer what it says; it names each call and each test. */
public final class ReadmeTest {
    private static final Pattern CALL =
        Pattern.compile("(?:int (\\w+) = )?x\\.(\\w+)\\((.*)\\); +// (-?\\d+|true|false)(:.*)?");
    private static int wrong = 0;

    private static void need(boolean good, String what) {
        if (!good) {
            wrong++;
            System.out.println("README.md: " + what);
        }
    }

    public static void main(String[] args) throws Exception {
        Path source = Path.of(args[0]).toAbsolutePath();
        Path root = source.getParent().getParent().getParent().getParent();
        String page = Files.readString(root.resolve("README.md"));
        int calls = makeCalls(page);
        need(calls >= 10, "only " + calls + " calls");
        for (Method m : HearDifference.class.getDeclaredMethods()) {
            boolean named = page.contains("`" + m.getName() + "`");
            need(named || !Modifier.isPublic(m.getModifiers()), "nothing on " + m.getName());
        }
        try (var files = Files.list(root.resolve("src/test/java"))) {
            for (Path file : files.toList()) {
                String name = file.getFileName().toString().replace(".java", "");
                need(page.contains("`" + name + "`"), "nothing on " + name);
            }
        }
        need(page.contains(".ci/run"), "it does not say how the tests are run");
        System.out.println(wrong == 0 ? "the " + calls + " calls of README.md answer as it says" : wrong + " do not");
        if (wrong != 0) {
            System.exit(1);
        }
    }

    private static int makeCalls(String page) throws Exception {
        HearDifference x = new HearDifference();
        Map<String, Integer> names = new TreeMap<>();
        int calls = 0;
        String[] blocks = page.split("```java\n");
        for (int i = 1; i < blocks.length; i++) {
            for (String line : blocks[i].substring(0, blocks[i].indexOf("```")).split("\n")) {
                boolean beside = line.startsWith("//") || line.equals("HearDifference x = new HearDifference();");
                Matcher m = CALL.matcher(line);
                need(beside || m.matches(), "this line is not understood: " + line);
                if (m.matches()) {
                    calls++;
                    String answer = answer(x, m.group(2), m.group(3), names);
                    need(answer.equals(m.group(4)), line + " answered " + answer);
                    if (m.group(1) != null) {
                        names.put(m.group(1), Integer.valueOf(answer));
                    }
                }
            }
        }
        return calls;
    }

    private static String answer(HearDifference x, String name, String given, Map<String, Integer> names)
        throws Exception {
        String[] parts = given.isEmpty() ? new String[0] : given.split(", ");
        for (Method m : HearDifference.class.getDeclaredMethods()) {
            if (!m.getName().equals(name) || m.getParameterCount() != parts.length) {
                continue;
            }
            Object[] values = new Object[parts.length];
            for (int i = 0; i < parts.length; i++) {
                values[i] = value(parts[i], names);
            }
            return String.valueOf(m.invoke(x, values));
        }
        return "nothing: there is no such call";
    }

    private static Object value(String part, Map<String, Integer> names) {
        if (part.equals("true") || part.equals("false")) {
            return Boolean.valueOf(part);
        }
        return names.containsKey(part) ? names.get(part) : Integer.decode(part);
    }
}
