import java.lang.reflect.Constructor;
import java.lang.reflect.Field;
import java.lang.reflect.Method;
import java.lang.reflect.Modifier;
import java.nio.file.Files;
import java.nio.file.Path;
import java.util.Arrays;
import java.util.Set;
import java.util.TreeSet;
import java.util.regex.Matcher;
import java.util.regex.Pattern;

/** The face of the document, and those rules of LANGUAGE.md that a look at the class and its file tells. */
public final class FaceTest {
    private static final Due due = new Due();
    private static final String[] FACE = {
        "int night()", "int boy(int int int)", "int give(int int)", "int type(int)", "int clear()", "int read()",
        "int swap(int int)", "int sell(int int int)", "int undo()", "int of(int int)", "int worth(int int)",
        "int whose(int)", "int enough()", "int envy(int)", "int fair(int)", "int pieces(int)", "int swaps(int)",
        "int steps()", "int sale(int int)", "int longest(int)", "int together(int int)", "int note(int int int int)",
        "int forget()", "int is(int)", "int asks(int)", "int took(int int)", "int owls(int int)",
        "int terms(int int)", "long part(int)", "int image(int)", "int from(int)", "int status(int)",
        "int count(int)", "long digest()"};

    public static void main(String[] args) throws Exception {
        methods();
        constants();
        constructors();
        source(Files.readString(Path.of("src/main/java/DarkShares.java")));
        anyArguments();
        due.end();
    }

    private static void methods() {
        Set<String> expected = new TreeSet<>(Arrays.asList(FACE));
        Set<String> names = new TreeSet<>();
        for (String row : FACE) names.add(row.substring(row.indexOf(' ') + 1, row.indexOf('(')));
        due.is("34 methods", names.size(), 34);
        for (Method m : DarkShares.class.getDeclaredMethods()) {
            StringBuilder row = new StringBuilder(m.getReturnType() + " " + m.getName() + "(");
            for (Class<?> p : m.getParameterTypes()) row.append(row.charAt(row.length() - 1) == '(' ? "" : " ").append(p);
            row.append(")");
            boolean open = !Modifier.isPrivate(m.getModifiers());
            due.is(row + " is of the face", open ? 1 : 0, expected.remove(row.toString()) ? 1 : 0);
            if (!open) due.is(row + " bears a name of the face", names.contains(m.getName()) ? 1 : 0, 0);
        }
        due.is("missing: " + expected, expected.size(), 0);
        due.is("final", Modifier.isFinal(DarkShares.class.getModifiers()) ? 1 : 0, 1);
        for (Class<?> c : DarkShares.class.getDeclaredClasses()) {
            due.is(c + " is static", Modifier.isStatic(c.getModifiers()) ? 1 : 0, 1);
            for (Method m : c.getDeclaredMethods()) due.is(c + "." + m.getName(), names.contains(m.getName()) ? 1 : 0, 0);
        }
    }

    private static void constants() throws Exception {
        String[] names = {"NONE", "BAD", "NO", "FULL"};
        for (int n = 0; n < 4; n++) {
            Field f = DarkShares.class.getDeclaredField(names[n]);
            due.is(names[n], f.getInt(null), -1 - n);
        }
        int open = 0;
        for (Field f : DarkShares.class.getDeclaredFields()) {
            if (!Modifier.isPrivate(f.getModifiers())) open++;
            if (Modifier.isStatic(f.getModifiers())) due.is(f.getName() + " is final", Modifier.isFinal(f.getModifiers()) ? 1 : 0, 1);
        }
        due.is("constants of the face", open, 4);
    }

    private static void constructors() {
        Constructor<?>[] all = DarkShares.class.getDeclaredConstructors();
        due.is("constructors", all.length, 1);
        due.is("parameters", all[0].getParameterCount(), 0);
        due.is("public", Modifier.isPublic(all[0].getModifiers()) ? 1 : 0, 1);
    }

    private static void source(String text) {
        String code = text.replaceAll("(?s)/\\*.*?\\*/", "").replaceAll("//[^\n]*", "");
        for (String word : new String[] {"throw", "try", "catch", "synchronized", "assert", "package", "native", "Object",
            "hashCode", "toString", "Random", "Exception", "Override", "->", "::", "@"}) {
            due.is("'" + word + "' in the code", code.contains(word) && Pattern.compile("(?<!\\w)" + Pattern.quote(word) + "(?!\\w)").matcher(code).find() ? 1 : 0, 0);
        }
        Matcher called = Pattern.compile("\\b(Math|Integer|Long|System|Arrays)\\.(\\w+)").matcher(code);
        while (called.find()) {
            String call = called.group();
            boolean fine = Set.of("Math.max", "Math.min", "Integer.bitCount", "System.arraycopy", "Arrays.fill").contains(call);
            due.is(call + " is listed", fine ? 1 : 0, 1);
        }
        int classes = code.split("\\bclass \\w+").length - 1;
        due.is("classes, twelve at most", classes <= 12 ? 1 : 0, 1);
        methodLengths(code);
    }

    private static void methodLengths(String code) {
        int depth = 0;
        int since = 0;
        String head = "";
        for (String line : code.split("\n")) {
            since++;
            String bare = line.strip();
            boolean opens = bare.matches(".*\\w+\\([^;=]*\\) \\{") && !bare.matches("(\\} )?(if|for|while|switch|else).*");
            if (opens) {
                since = 0;
                head = bare;
                depth = line.indexOf(bare);
            }
            if (!head.isEmpty() && bare.equals("}") && line.indexOf(bare) == depth) {
                due.is(head + " has sixty lines at most", since <= 60 ? 1 : 0, 1);
                head = "";
            }
        }
    }

    /** No call may throw, whatever it is given. */
    private static void anyArguments() throws Exception {
        int[] odd = {Integer.MIN_VALUE, -10, -2, -1, 0, 1, 4, 5, 11, 12, 40, 41, 60, 127, 128, 4095, 4096, 999999, Integer.MAX_VALUE};
        DarkShares x = new DarkShares();
        int turn = 0;
        for (int round = 0; round < 400; round++) {
            for (Method m : DarkShares.class.getMethods()) {
                if (m.getDeclaringClass() != DarkShares.class) continue;
                Object[] with = new Object[m.getParameterCount()];
                for (int n = 0; n < with.length; n++) {
                    turn = turn * 31 + 7 + n;
                    with[n] = odd[Math.floorMod(turn >> 8, odd.length)];
                }
                m.invoke(x, with);
            }
        }
        due.is("every call ended", 1, 1);
    }
}
