import java.lang.reflect.Method;
import java.util.Arrays;
import java.util.HashMap;
import java.util.Map;
import java.util.Random;

/** Runs of calls by a seed, each answer and each digest held against the model's. */
public final class ModelTest {
    private static final int RUNS = 3000;
    // With a digest behind each, so that an object is asked no more than the 512 calls that are promised.
    private static final int CALLS = 255;
    // Each call's numbers, by the least and the most that are asked; most of them are as told.
    private static final String[] FACE = {
        "night", "boy 0 5 0 12 0 40", "give 0 11 -1 4", "type 0 127", "clear", "read",
        "swap 0 11 0 11", "sell 0 11 0 4 0 15", "undo", "of 0 4 0 4", "worth 0 4 0 4095", "whose 0 11",
        "enough", "envy 0 4", "fair 0 4", "pieces -1 5", "swaps -1 9", "steps", "sale 0 11 0 1", "longest 0 1", "together 0 4 0 4",
        "note 0 4 0 11 0 6 0 1", "forget", "is 0 4", "asks 0 4", "took 0 4 0 4095", "owls 0 4 0 10", "terms 0 999999 0 60",
        "part 0 1", "image 0 1", "from 0 1", "status 0 2", "count 0 6", "digest"};
    private static final String[] PARTS = {"night;", "boy ", "cells ", ";", " ", "0", "3", "11", "12", "40 ", "7 ", "boy 0 2 9;", "boy 3 4 5;",
        "cells 0 1 2;", "cells 1 4 5 8;", "x", "-", "A", "boy 5 12 40;", "cells 2 11 10;", "night;boy 2 1 9;"};

    private final Random by;
    private final DarkShares x = new DarkShares();
    private final Model model = new Model();
    private final Map<String, Method> methods;
    private final StringBuilder told = new StringBuilder();
    private int calls = 0;
    private boolean wrong = false;

    private ModelTest(long seed, Map<String, Method> methods) {
        by = new Random(seed);
        this.methods = methods;
    }

    public static void main(String[] args) throws Exception {
        Map<String, Method> methods = new HashMap<>();
        for (Method m : DarkShares.class.getDeclaredMethods()) methods.put(m.getName(), m);
        int wrong = 0;
        for (int seed = 0; seed < RUNS && wrong < 3; seed++) {
            ModelTest run = new ModelTest(seed, methods);
            run.run();
            if (run.wrong) wrong++;
        }
        System.out.println(wrong == 0 ? RUNS + " runs are as the model's" : wrong + " runs are not as the model's");
        if (wrong != 0) System.exit(1);
    }

    private void run() throws Exception {
        while (calls < CALLS && !wrong) {
            int kind = by.nextInt(20);
            if (kind == 0) tell();
            else if (kind == 1) share();
            else one(FACE[by.nextInt(FACE.length)].split(" "));
        }
    }

    private void tell() throws Exception {
        both("clear");
        StringBuilder text = new StringBuilder(by.nextInt(8) == 0 ? "" : "night;");
        for (int n = by.nextInt(9); n > 0; n--) text.append(PARTS[by.nextInt(PARTS.length)]);
        for (int n = 0; n < text.length(); n++) both("type", text.charAt(n));
        both("read");
    }

    /** Boys come and cells are given, so that the rest has something to be asked about. */
    private void share() throws Exception {
        for (int n = by.nextInt(4); n > 0; n--) both("boy", by.nextInt(6), by.nextInt(6), by.nextInt(41));
        for (int j = 0; j < 12; j++) if (by.nextInt(6) != 0) both("give", j, by.nextInt(5));
    }

    private void one(String[] row) throws Exception {
        // These would empty all too often.
        if ((row[0].equals("night") || row[0].equals("forget")) && by.nextInt(6) != 0) return;
        int[] with = new int[row.length / 2];
        for (int n = 0; n < with.length; n++) {
            int least = Integer.parseInt(row[2 * n + 1]);
            int most = Integer.parseInt(row[2 * n + 2]);
            with[n] = least + by.nextInt(most - least + 1);
            int odd = by.nextInt(60);
            if (odd == 0) with[n] = least - 1;
            if (odd == 1) with[n] = most + 1;
            if (odd == 2) with[n] = by.nextInt();
        }
        both(row[0], with);
    }

    private void both(String name, int... with) throws Exception {
        if (wrong || calls >= CALLS) return;
        calls++;
        Object[] boxed = Arrays.stream(with).boxed().toArray();
        long got = ((Number) methods.get(name).invoke(x, boxed)).longValue();
        long want = model.call(name, with);
        told.append(name).append(Arrays.toString(with)).append(' ').append(got).append('\n');
        long mix = x.digest();
        if (got == want && mix == model.call("digest")) return;
        wrong = true;
        System.out.println(told + "the last is wrong: due is " + want + (got == want ? ", but the digest differs" : ""));
    }
}
