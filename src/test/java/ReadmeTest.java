import java.io.IOException;
import java.lang.reflect.Method;
import java.lang.reflect.Modifier;
import java.nio.file.Files;
import java.nio.file.Path;
import java.util.List;
import java.util.Map;
import java.util.regex.Matcher;
import java.util.regex.Pattern;

/** What README.md says of the class is so: its examples are run as they stand there, and it names every call. */
public final class ReadmeTest {
    private static final Map<String, Long> NAMED = Map.of("BAD", (long) BarrowGrief.BAD, "STATE", (long) BarrowGrief.STATE,
        "FULL", (long) BarrowGrief.FULL, "NONE", (long) BarrowGrief.NONE);
    private static final Pattern MADE = Pattern.compile("(BarrowGrief )?x = new BarrowGrief\\(\\);");
    private static final Pattern TOLD = Pattern.compile("(String )?told = \"([^\"]*)\";");
    private static final Pattern ASKED = Pattern.compile("x\\.(\\w+)\\(([^)]*)\\); +// (-?\\w+): \\S.*");
    /** The rows that feed what is told, one by one. */
    private static final List<String> FEEDING = List.of(
        "for (int i = 0; i < told.length(); i++) {", "    x.feed(told.charAt(i));", "}");

    private static BarrowGrief x;
    private static String told = "";

    private ReadmeTest() {
    }

    public static void main(String[] args) throws IOException, ReflectiveOperationException {
        String text = Files.readString(Path.of("README.md"));
        Matcher block = Pattern.compile("(?s)```java\n(.*?)```").matcher(text);
        int blocks = 0;
        while (block.find()) {
            blocks++;
            for (String row : block.group(1).split("\n")) {
                run(row);
            }
        }
        Due.due("blocks of examples", blocks, 2);
        namesAll(text);
        Due.finish();
    }

    private static void run(String row) throws ReflectiveOperationException {
        Matcher asked = ASKED.matcher(row);
        Matcher tells = TOLD.matcher(row);
        if (MADE.matcher(row).matches()) {
            x = new BarrowGrief();
        } else if (tells.matches()) {
            told = tells.group(2);
        } else if (asked.matches()) {
            String call = asked.group(1) + "(" + asked.group(2) + ")";
            Due.due("README.md: " + call, answer(asked.group(1), asked.group(2)), number(asked.group(3)));
        } else if (row.equals(FEEDING.get(1))) {
            Due.feed(x, told);
        } else {
            Due.due("README.md: a row that can be run: " + row, FEEDING.contains(row) ? 1 : 0, 1);
        }
    }

    private static long number(String written) {
        return NAMED.containsKey(written) ? NAMED.get(written) : Long.parseLong(written);
    }

    private static long answer(String name, String written) throws ReflectiveOperationException {
        String[] parts = written.isEmpty() ? new String[0] : written.split(", ");
        Class<?>[] types = new Class<?>[parts.length];
        Object[] values = new Object[parts.length];
        for (int i = 0; i < parts.length; i++) {
            types[i] = int.class;
            values[i] = Integer.valueOf(parts[i]);
        }
        return ((Number) BarrowGrief.class.getMethod(name, types).invoke(x, values)).longValue();
    }

    private static void namesAll(String text) {
        for (Method m : BarrowGrief.class.getDeclaredMethods()) {
            if (Modifier.isPublic(m.getModifiers())) {
                Due.due("README.md names " + m.getName(), text.contains("`" + m.getName() + "`") ? 1 : 0, 1);
            }
        }
        for (Map.Entry<String, Long> e : NAMED.entrySet()) {
            String row = "| `" + e.getKey() + "` | " + e.getValue() + " | ";
            Due.due("README.md says what " + e.getKey() + " means", text.contains(row) ? 1 : 0, 1);
        }
        Due.due("README.md says how the tests are run", text.contains("    .ci/run\n") ? 1 : 0, 1);
    }
}
