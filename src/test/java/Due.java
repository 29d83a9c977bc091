import java.lang.reflect.InvocationTargetException;
import java.lang.reflect.Method;
import java.util.ArrayList;
import java.util.Arrays;
import java.util.Comparator;
import java.util.List;
import java.util.function.LongSupplier;

/** What the project's tests have in common: they tell each answer that is not as due, and whose test it is. */
final class Due {
    static final int NONE = DarkShares.NONE, BAD = DarkShares.BAD, NO = DarkShares.NO, FULL = DarkShares.FULL;
    /** BAD as the calls tell it that may answer -2 otherwise, and what is not so many. */
    static final int OTHER_BAD = -10, NOT_SO_MANY = -5;

    private String test = "";
    private int tests = 0;
    private int asked = 0;
    private int wrong = 0;

    void is(String call, long got, long want) {
        asked++;
        if (got == want) return;
        wrong++;
        System.out.println(told() + call + " answered " + got + ", due is " + want);
    }

    void is(String call, String got, String want) {
        asked++;
        if (got.equals(want)) return;
        wrong++;
        System.out.println(told() + call + " left " + got + ", due is " + want);
    }

    /** The call is refused: STATUS tells it once, by its reason, and nothing else is changed. Uses up image 1. */
    void refused(String call, int answer, DarkShares x, LongSupplier ask) {
        String ahead = seen(x);
        int[] status = {x.status(0), x.status(1), x.status(2)};
        is(call, ask.getAsLong(), answer);
        status[answer == NO ? 1 : answer == FULL ? 2 : 0]++;
        for (int what = 0; what < 3; what++) is(call + " and then status(" + what + ")", x.status(what), status[what]);
        is(call, seen(x), ahead);
    }

    /** The call answers, nothing is changed by it, and STATUS has nothing of it. Uses up image 1. */
    void changesNothing(String call, long answer, DarkShares x, LongSupplier ask) {
        String ahead = seen(x);
        int[] status = {x.status(0), x.status(1), x.status(2)};
        is(call, ask.getAsLong(), answer);
        for (int what = 0; what < 3; what++) is(call + " and then status(" + what + ")", x.status(what), status[what]);
        is(call, seen(x), ahead);
    }

    private String told() {
        return test.isEmpty() ? "" : test + ": ";
    }

    void end() {
        System.out.println(asked - wrong + " of " + asked + " answers are as due" + (tests == 0 ? "" : ", in " + tests + " tests"));
        if (wrong != 0 || asked == 0) System.exit(1);
    }

    // ---- tests by their names

    /** The tests of a class: its methods that are called by a promise's number. */
    static List<Method> testsOf(Class<?> all) {
        List<Method> tests = new ArrayList<>();
        for (Method m : all.getDeclaredMethods()) if (m.getName().matches("promise[0-9]{2}[A-Z].*")) tests.add(m);
        tests.sort(Comparator.comparing(Method::getName));
        return tests;
    }

    static void runAll(Class<?> all) throws Exception {
        Due due = new Due();
        for (Method m : testsOf(all)) due.run(m);
        due.end();
    }

    private void run(Method m) throws Exception {
        int ahead = asked;
        test = m.getName();
        tests++;
        try {
            m.invoke(null, this);
        } catch (InvocationTargetException e) {
            wrong++;
            System.out.println(told() + e.getCause() + " at " + Arrays.toString(e.getCause().getStackTrace()));
        }
        if (asked == ahead) is("a test that asks something", 0, 1);
    }

    // ---- nights

    static void typed(DarkShares x, String text) {
        x.clear();
        for (int n = 0; n < text.length(); n++) x.type(text.charAt(n));
    }

    static int reading(DarkShares x, String text) {
        typed(x, text);
        return x.read();
    }

    /** A new object that has read the text. */
    static DarkShares told(String text) {
        DarkShares x = new DarkShares();
        int items = reading(x, text);
        if (items <= 0) throw new IllegalStateException(text + " reads as " + items);
        return x;
    }

    /** A new object with a boy of each kind told, without needs and jam. */
    static DarkShares boys(int... kinds) {
        DarkShares x = new DarkShares();
        for (int kind : kinds) x.boy(kind, 0, 0);
        return x;
    }

    /** All cells by whose they are: a figure is a boy's number, a point is grey. */
    static DarkShares given(DarkShares x, String cells) {
        for (int j = 0; j < cells.length(); j++) {
            int boy = cells.charAt(j) == '.' ? NONE : cells.charAt(j) - '0';
            if (x.whose(j) != boy) x.give(j, boy);
        }
        return x;
    }

    /** Whose the cells are, as given takes them. */
    static String cells(DarkShares x) {
        StringBuilder cells = new StringBuilder();
        for (int j = 0; j < 12; j++) {
            int boy = x.whose(j);
            cells.append(boy == NONE ? "." : boy);
        }
        return cells.toString();
    }

    /** All that can be seen but STATUS and image 0; image 1, which keeps what may be undone, is used up by it. */
    static String seen(DarkShares x) {
        x.image(1);
        StringBuilder seen = new StringBuilder().append(x.digest());
        for (int n = x.count(5); n > 0; n--) seen.append(' ').append(x.undo()).append(' ').append(x.digest());
        seen.append(' ').append(x.read()).append(' ').append(x.digest());
        x.from(1);
        return seen.toString();
    }

    static int bits(int... places) {
        int bits = 0;
        for (int place : places) bits |= 1 << place;
        return bits;
    }
}
