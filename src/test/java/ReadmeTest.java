import java.lang.reflect.Method;
import java.lang.reflect.Modifier;
import java.nio.file.Files;
import java.nio.file.Path;
import java.util.regex.Matcher;
import java.util.regex.Pattern;

/** README.md's first evening answers as it says there, and its tables have every call of the face. */
public final class ReadmeTest {
    private static final Pattern CALL = Pattern.compile("(?m)^band\\.(\\w+)\\(([^)]*)\\); +// (-?\\w+)");

    public static void main(String[] args) throws Exception {
        String readme = Files.readString(Path.of("README.md"));
        firstEvening(readme);
        everyCall(readme);
        everyTest(readme);
        Check.end("ReadmeTest");
    }

    private static void firstEvening(String readme) throws Exception {
        Matcher block = Pattern.compile("(?s)```java\n(.*?)```").matcher(readme);
        Check.due("README.md has a block of calls", block.find(), true);
        TownBand x = new TownBand();
        int calls = 0;
        Matcher m = CALL.matcher(block.group(1));
        while (m.find()) {
            calls++;
            Check.due("README.md: " + m.group(1) + "(" + m.group(2) + ")", answer(x, m.group(1), m.group(2)), number(m.group(3)));
        }
        Check.due("README.md: lines with an answer", calls, block.group(1).split("\n").length - 1);
    }

    private static Method named(String name) {
        for (Method m : TownBand.class.getDeclaredMethods()) {
            if (m.getName().equals(name) && Modifier.isPublic(m.getModifiers())) {
                return m;
            }
        }
        throw new IllegalStateException("README.md calls " + name);
    }

    private static long answer(TownBand x, String name, String list) throws Exception {
        Method m = named(name);
        String[] told = list.isEmpty() ? new String[0] : list.split(", ");
        Object[] values = new Object[told.length];
        for (int i = 0; i < told.length; i++) {
            boolean truth = m.getParameterTypes()[i] == boolean.class;
            values[i] = truth ? (Object) Boolean.valueOf(told[i]) : (Object) (int) number(told[i]);
        }
        Object got = m.invoke(x, values);
        return got instanceof Boolean b ? (b ? 1 : 0) : (Integer) got;
    }

    private static long number(String text) {
        return switch (text) {
            case "true" -> 1;
            case "false" -> 0;
            default -> Long.decode(text);
        };
    }

    private static void everyCall(String readme) {
        for (Method m : TownBand.class.getDeclaredMethods()) {
            if (!Modifier.isPublic(m.getModifiers())) {
                continue;
            }
            StringBuilder row = new StringBuilder("(?m)^\\| `").append(m.getReturnType()).append(" ").append(m.getName()).append("\\(");
            for (int i = 0; i < m.getParameterCount(); i++) {
                row.append(i == 0 ? "" : ", ").append(m.getParameterTypes()[i]).append(" \\w+");
            }
            row.append("\\)` \\| [^|]{20,} \\|$");
            Check.due("README.md has a row for " + m.getName(), Pattern.compile(row.toString()).matcher(readme).find(), true);
        }
        Check.due("README.md has a row for the constructor", readme.contains("| `TownBand()` |"), true);
    }

    private static void everyTest(String readme) throws Exception {
        try (var files = Files.list(Path.of("src/test/java"))) {
            for (Path file : (Iterable<Path>) files::iterator) {
                String name = file.getFileName().toString().replace(".java", "");
                Check.due("README.md names " + name, !name.endsWith("Test") || readme.contains("`" + name + "`"), true);
            }
        }
    }
}
