import java.io.File;
import java.lang.reflect.Method;
import java.util.Set;
import java.util.TreeSet;

/** Each of the 35 promises has tests that are called by its number. */
public final class PromisesTest {
    public static void main(String[] args) throws Exception {
        Due due = new Due();
        int[] tests = new int[36];
        Set<String> names = new TreeSet<>();
        for (String file : new File("src/test/java").list()) {
            if (!file.endsWith("Test.java")) continue;
            for (Method m : Due.testsOf(Class.forName(file.substring(0, file.length() - 5)))) {
                int promise = Integer.parseInt(m.getName().substring(7, 9));
                due.is(m.getName() + " is of a promise", promise >= 1 && promise <= 35 ? 1 : 0, 1);
                due.is(m.getName() + " is the only one of its name", names.add(m.getName()) ? 1 : 0, 1);
                if (promise < tests.length) tests[promise]++;
            }
        }
        for (int promise = 1; promise <= 35; promise++) due.is("promise " + promise + " has tests", tests[promise] > 0 ? 1 : 0, 1);
        due.end();
    }
}
