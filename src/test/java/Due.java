/** What the project's tests have in common: they tell each answer that is not as due. */
final class Due {
    static final int NONE = DarkShares.NONE, BAD = DarkShares.BAD, NO = DarkShares.NO, FULL = DarkShares.FULL;

    private int asked = 0;
    private int wrong = 0;

    void is(String call, long got, long want) {
        asked++;
        if (got == want) return;
        wrong++;
        System.out.println(call + " answered " + got + ", due is " + want);
    }

    void end() {
        System.out.println(asked - wrong + " of " + asked + " answers are as due");
        if (wrong != 0 || asked == 0) System.exit(1);
    }

    static void typed(DarkShares x, String text) {
        x.clear();
        for (int n = 0; n < text.length(); n++) x.type(text.charAt(n));
    }

    static int reading(DarkShares x, String text) {
        typed(x, text);
        return x.read();
    }

    /** A new object that has read the text. */
    static DarkShares told(String text) {
        DarkShares x = new DarkShares();
        int items = reading(x, text);
        if (items <= 0) throw new IllegalStateException(text + " reads as " + items);
        return x;
    }

    static int bits(int... places) {
        int bits = 0;
        for (int place : places) bits |= 1 << place;
        return bits;
    }
}
