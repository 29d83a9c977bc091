import java.lang.reflect.Constructor;
import java.lang.reflect.Field;
import java.lang.reflect.Method;
import java.lang.reflect.Modifier;
import java.util.Arrays;
import java.util.Set;
import java.util.TreeSet;

/** The face of the document, and that no call throws. What LANGUAGE.md asks of the file is in LanguageTest. */
public final class FaceTest {
    private static final Due due = new Due();
    private static final String[] FACE = {
        "int night()", "int boy(int int int)", "int give(int int)", "int type(int)", "int clear()", "int read()",
        "int swap(int int)", "int sell(int int int)", "int undo()", "int of(int int)", "int worth(int int)",
        "int whose(int)", "int enough()", "int envy(int)", "int fair(int)", "int pieces(int)", "int swaps(int)",
        "int steps()", "int sale(int int)", "int longest(int)", "int together(int int)", "int note(int int int int)",
        "int forget()", "int is(int)", "int asks(int)", "int took(int int)", "int owls(int int)",
        "int terms(int int)", "long part(int)", "int image(int)", "int from(int)", "int status(int)",
        "int count(int)", "long digest()"};

    public static void main(String[] args) throws Exception {
        methods();
        constants();
        constructors();
        anyArguments();
        due.end();
    }

    private static void methods() {
        Set<String> expected = new TreeSet<>(Arrays.asList(FACE));
        Set<String> names = new TreeSet<>();
        for (String row : FACE) names.add(row.substring(row.indexOf(' ') + 1, row.indexOf('(')));
        due.is("34 methods", names.size(), 34);
        for (Method m : DarkShares.class.getDeclaredMethods()) {
            StringBuilder row = new StringBuilder(m.getReturnType() + " " + m.getName() + "(");
            for (Class<?> p : m.getParameterTypes()) row.append(row.charAt(row.length() - 1) == '(' ? "" : " ").append(p);
            row.append(")");
            boolean open = !Modifier.isPrivate(m.getModifiers());
            due.is(row + " is of the face", open ? 1 : 0, expected.remove(row.toString()) ? 1 : 0);
            if (!open) due.is(row + " bears a name of the face", names.contains(m.getName()) ? 1 : 0, 0);
        }
        due.is("missing: " + expected, expected.size(), 0);
        due.is("final", Modifier.isFinal(DarkShares.class.getModifiers()) ? 1 : 0, 1);
        for (Class<?> c : DarkShares.class.getDeclaredClasses()) {
            due.is(c + " is static", Modifier.isStatic(c.getModifiers()) ? 1 : 0, 1);
            for (Method m : c.getDeclaredMethods()) due.is(c + "." + m.getName(), names.contains(m.getName()) ? 1 : 0, 0);
        }
    }

    private static void constants() throws Exception {
        String[] names = {"NONE", "BAD", "NO", "FULL"};
        for (int n = 0; n < 4; n++) {
            Field f = DarkShares.class.getDeclaredField(names[n]);
            due.is(names[n], f.getInt(null), -1 - n);
        }
        int open = 0;
        for (Field f : DarkShares.class.getDeclaredFields()) {
            if (!Modifier.isPrivate(f.getModifiers())) open++;
            if (Modifier.isStatic(f.getModifiers())) due.is(f.getName() + " is final", Modifier.isFinal(f.getModifiers()) ? 1 : 0, 1);
        }
        due.is("constants of the face", open, 4);
    }

    private static void constructors() {
        Constructor<?>[] all = DarkShares.class.getDeclaredConstructors();
        due.is("constructors", all.length, 1);
        due.is("parameters", all[0].getParameterCount(), 0);
        due.is("public", Modifier.isPublic(all[0].getModifiers()) ? 1 : 0, 1);
    }

    /** No call may throw, whatever it is given. */
    private static void anyArguments() throws Exception {
        int[] odd = {Integer.MIN_VALUE, -10, -2, -1, 0, 1, 4, 5, 11, 12, 40, 41, 60, 127, 128, 4095, 4096, 999999, Integer.MAX_VALUE};
        DarkShares x = new DarkShares();
        int turn = 0;
        for (int round = 0; round < 400; round++) {
            for (Method m : DarkShares.class.getMethods()) {
                if (m.getDeclaringClass() != DarkShares.class) continue;
                Object[] with = new Object[m.getParameterCount()];
                for (int n = 0; n < with.length; n++) {
                    turn = turn * 31 + 7 + n;
                    with[n] = odd[Math.floorMod(turn >> 8, odd.length)];
                }
                m.invoke(x, with);
            }
        }
        due.is("every call ended", 1, 1);
    }
}
