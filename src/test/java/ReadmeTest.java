import java.io.File;
import java.lang.reflect.Method;
import java.nio.file.Files;
import java.nio.file.Path;
import java.util.HashMap;
import java.util.Map;
import java.util.regex.Matcher;
import java.util.regex.Pattern;

/** README.md names every call and test, and the answers that its example shows are those of the class. */
public final class ReadmeTest {
    private static final Pattern ROW = Pattern.compile("(?:int (\\w+) = )?night\\.(\\w+)\\(([^)]*)\\);(?:\\s+// (-?\\d+):.*)?.*");

    public static void main(String[] args) throws Exception {
        Due due = new Due();
        String page = Files.readString(Path.of("README.md"));
        namesAll(due, page);
        example(due, page);
        text(due, page);
        due.end();
    }

    private static void namesAll(Due due, String page) {
        for (Method m : DarkShares.class.getDeclaredMethods()) {
            if (!java.lang.reflect.Modifier.isPublic(m.getModifiers())) continue;
            Matcher named = Pattern.compile("`" + m.getName() + "\\(([^)]*)\\)`").matcher(page);
            int with = -1;
            while (with != m.getParameterCount() && named.find()) with = named.group(1).isEmpty() ? 0 : named.group(1).split(",").length;
            due.is("README.md names " + m.getName() + " with so many numbers", with, m.getParameterCount());
        }
        for (String file : new File("src/test/java").list()) {
            if (!file.endsWith("Test.java")) continue;
            String name = file.substring(0, file.length() - 5);
            due.is("README.md names " + name, page.contains("| `" + name + "` |") ? 1 : 0, 1);
        }
    }

    /** Each row is called; a number behind it is the answer that is due. */
    private static void example(Due due, String page) throws Exception {
        String code = page.substring(page.indexOf("```java") + 7);
        code = code.substring(0, code.indexOf("```"));
        DarkShares x = new DarkShares();
        Map<String, Integer> named = new HashMap<>();
        int answers = 0;
        for (String row : code.strip().split("\n")) {
            if (row.equals("DarkShares night = new DarkShares();")) continue;
            Matcher m = ROW.matcher(row);
            due.is("a row that can be read: " + row, m.matches() ? 1 : 0, 1);
            if (!m.matches()) continue;
            long got = call(x, m.group(2), m.group(3).split(", *"), named);
            if (m.group(1) != null) named.put(m.group(1), (int) got);
            if (m.group(4) == null) continue;
            answers++;
            due.is(row, got, Long.parseLong(m.group(4)));
        }
        due.is("some answers are shown", answers > 3 ? 1 : 0, 1);
    }

    private static long call(DarkShares x, String name, String[] words, Map<String, Integer> named) throws Exception {
        for (Method m : DarkShares.class.getDeclaredMethods()) {
            if (!m.getName().equals(name)) continue;
            Object[] with = new Object[m.getParameterCount()];
            for (int n = 0; n < with.length; n++) with[n] = named.containsKey(words[n]) ? named.get(words[n]) : Integer.valueOf(words[n]);
            return ((Number) m.invoke(x, with)).longValue();
        }
        throw new IllegalArgumentException(name);
    }

    private static void text(Due due, String page) {
        Matcher m = Pattern.compile("`(night;[^`]*)`, then `read\\(\\)` answers (\\d+)").matcher(page);
        due.is("a text is shown", m.find() ? 1 : 0, 1);
        due.is("read() of it", Due.reading(new DarkShares(), m.group(1)), Integer.parseInt(m.group(2)));
    }
}
