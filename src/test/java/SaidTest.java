/** Promises 23 to 29: note, forget, is, asks, took, owls, terms. */
public final class SaidTest {
    private static final Due due = new Due();

    public static void main(String[] args) {
        note();
        is();
        asks();
        took();
        owls();
        terms();
        termsChangeNothing();
        termsRefused();
        due.end();
    }

    private static void note() {
        DarkShares x = Due.told("night;boy 0 0 0;boy 0 0 0;");
        due.is("note(-1, 0, 0, 0)", x.note(-1, 0, 0, 0), Due.BAD);
        due.is("note(2, 0, 0, 0)", x.note(2, 0, 0, 0), Due.BAD);
        due.is("note(0, -1, 0, 0)", x.note(0, -1, 0, 0), Due.BAD);
        due.is("note(0, 12, 0, 0)", x.note(0, 12, 0, 0), Due.BAD);
        due.is("note(0, 0, -1, 0)", x.note(0, 0, -1, 0), Due.BAD);
        due.is("note(0, 0, 21, 0)", x.note(0, 0, 21, 0), Due.BAD);
        due.is("note(0, 0, 0, -1)", x.note(0, 0, 0, -1), Due.BAD);
        due.is("note(0, 0, 0, 2)", x.note(0, 0, 0, 2), Due.BAD);
        due.is("forget() of none", x.forget(), 0);
        for (int n = 1; n <= 6; n++) due.is("note " + n, x.note(n % 2, 11, 20, n % 2), n);
        due.is("the 7th", x.note(0, 0, 0, 0), Due.FULL);
        due.is("BAD ahead of FULL", x.note(0, 12, 0, 0), Due.BAD);
        due.is("notes", x.count(4), 6);
        due.is("status(0)", x.status(0), 9);
        due.is("status(2)", x.status(2), 1);
        due.is("forget()", x.forget(), 6);
        due.is("forgotten", x.count(4), 0);
        due.is("is(0) then", x.is(0), 63);
        due.is("a note again", x.note(0, 0, 0, 0), 1);
    }

    private static void is() {
        DarkShares x = Due.told("night;boy 4 0 0;boy 0 0 0;");
        due.is("nothing said", x.is(0), 63);
        x.note(0, 1, 5, 0);
        due.is("small or afraid", x.is(0), Due.bits(1, 4));
        due.is("the other said nothing", x.is(1), 63);
        x.note(0, 5, 0, 1);
        due.is("afraid", x.is(0), Due.bits(4));
        x.note(1, 6, 5, 1);
        due.is("a sleeper", x.is(1), Due.bits(3));
        x.note(1, 6, 3, 0);
        due.is("a sleeper still", x.is(1), Due.bits(3));
        x.note(1, 6, 6, 1);
        due.is("none", x.is(1), 0);
        due.is("is(-1)", x.is(-1), Due.BAD);
        due.is("is(2)", x.is(2), Due.BAD);
        x.forget();
        x.note(0, 11, 5, 0);
        due.is("a saver, by the last cell", x.is(0), Due.bits(5));
        x.note(1, 0, 4, 1);
        due.is("of cell 0 as told: a saver", x.is(1), Due.bits(5));
    }

    private static void asks() {
        DarkShares x = Due.told("night;boy 0 0 0;boy 0 0 0;");
        due.is("all six: three alike by cell 0, by 4, too", x.asks(0), 0);
        x.note(0, 1, 3, 0);
        due.is("0, 2, 3 are left", x.is(0), Due.bits(0, 2, 3));
        due.is("the prefect by cell 4", x.asks(0), 4);
        x.note(0, 4, 3, 0);
        due.is("0, 3 are left", x.is(0), Due.bits(0, 3));
        due.is("no cell tells if the one ahead is not his: the first", x.asks(0), 0);
        x.note(0, 4, 5, 1);
        due.is("one is left", x.asks(0), 0);
        x.note(0, 4, 19, 1);
        due.is("none is left", x.asks(0), Due.NONE);
        x.note(1, 1, 5, 0);
        due.is("small or afraid: by cell 4", x.asks(1), 4);
        x.forget();
        x.note(1, 0, 3, 1);
        due.is("plain or prefect", x.is(1), Due.bits(0, 2));
        due.is("by cell 4 again", x.asks(1), 4);
        x.forget();
        x.note(1, 5, 3, 0);
        due.is("0, 1, 3 are left", x.is(1), Due.bits(0, 1, 3));
        due.is("the small one by cell 0", x.asks(1), 0);
        due.is("asks(-1)", x.asks(-1), Due.BAD);
        due.is("asks(2)", x.asks(2), Due.BAD);
        due.is("NONE is not refused", x.status(0), 2);
    }

    private static void took() {
        DarkShares x = Due.told("night;boy 0 0 0;boy 0 0 0;boy 0 0 0;cells 0 0 1;cells 1 2 3;cells 2 4;");
        due.is("from 1", x.took(0, Due.bits(0, 1, 2)), Due.bits(1));
        due.is("both from 1", x.took(0, Due.bits(0, 1, 2, 3)), Due.bits(1));
        due.is("from 2", x.took(0, Due.bits(0, 1, 4)), Due.bits(2));
        due.is("from nobody alone", x.took(0, Due.bits(0, 1, 3, 4)), 0);
        due.is("a grey one is nobody's", x.took(0, Due.bits(0, 1, 9)), 0);
        due.is("all others, if he took none", x.took(0, Due.bits(0, 1)), Due.bits(1, 2));
        due.is("one of his is not among them", x.took(0, Due.bits(0, 2)), 0);
        due.is("none of his, and none besides", x.took(0, 0), 0);
        due.is("the last one from the first", x.took(2, Due.bits(0, 1, 4)), Due.bits(0));
        due.is("4095", x.took(0, 4095), 0);
        due.is("4096", x.took(0, 4096), Due.BAD);
        due.is("-1", x.took(0, -1), Due.BAD);
        due.is("took(3, 0)", x.took(3, 0), Due.BAD);
        due.is("took(-1, 0)", x.took(-1, 0), Due.BAD);
        x.boy(0, 0, 0);
        due.is("who has none, seen with none", x.took(3, 0), Due.bits(0, 1, 2));
    }

    private static void fraction(DarkShares x, int boy, int c, long above, long below) {
        due.is("owls(" + boy + ", " + c + ")", x.owls(boy, c), 1);
        due.is("above", x.part(0), above);
        due.is("below", x.part(1), below);
    }

    private static void owls() {
        DarkShares x = Due.told("night;boy 2 0 0;boy 3 0 0;boy 4 0 0;boy 0 0 0;cells 0 4 8;cells 1 3 5 6;cells 2 7;");
        fraction(x, 0, 0, 9, 1);
        fraction(x, 0, 10, 3, 1);
        fraction(x, 0, 5, 6, 1);
        fraction(x, 0, 3, 36, 5);
        fraction(x, 1, 1, 51, 5);
        fraction(x, 1, 10, 3, 1);
        fraction(x, 2, 5, 0, 1);
        fraction(x, 1, 5, 7, 1);
        fraction(x, 3, 5, 0, 1);
        due.is("7 and 8: the one behind an owl's", x.give(7, 1) + x.give(8, 1), 2);
        fraction(x, 1, 10, 8, 1);
        fraction(x, 1, 9, 93, 10);
        x.give(0, 0);
        x.give(2, 1);
        x.give(4, 1);
        fraction(x, 0, 4, 3, 1);
        fraction(x, 1, 5, 23, 1);
        x.give(3, 0);
        fraction(x, 1, 9, 49, 5);
        long ahead = x.digest();
        due.is("owls(0, 11)", x.owls(0, 11), Due.BAD);
        due.is("owls(0, -1)", x.owls(0, -1), Due.BAD);
        due.is("owls(4, 0)", x.owls(4, 0), Due.BAD);
        due.is("owls(-1, 0)", x.owls(-1, 0), Due.BAD);
        due.is("the fraction stays", x.digest(), ahead);
    }

    /** A prefect has all but the middle, one who is afraid the middle: each pair across is a swap. */
    private static DarkShares twoHalves() {
        return Due.told("night;boy 2 0 0;boy 4 0 0;cells 0 0 1 2 3 8 9 10 11;cells 1 4 5 6 7;");
    }

    private static void terms() {
        DarkShares x = twoHalves();
        long seed = 1;
        int done = 0;
        for (int n = 0; n <= 60; n++) {
            int[] owner = new int[12];
            for (int j = 0; j < 12; j++) owner[j] = j >= 4 && j <= 7 ? 1 : 0;
            seed = 17 * n + 1;
            done = 0;
            long rest = seed;
            for (int t = 0; t < n; t++) {
                rest = (rest * 1103515245L + 12345L) & 0x7fffffffL;
                int i = (int) ((rest >> 16) % 12);
                rest = (rest * 1103515245L + 12345L) & 0x7fffffffL;
                int j = (int) ((rest >> 16) % 12);
                int in = i >= 4 && i <= 7 ? i : j;
                int out = in == i ? j : i;
                boolean across = in >= 4 && in <= 7 && (out < 4 || out > 7);
                if (!across || owner[in] != 1 || owner[out] != 0) continue;
                owner[in] = 0;
                owner[out] = 1;
                done++;
            }
            due.is("terms(" + seed + ", " + n + ")", x.terms((int) seed, n), done);
        }
        due.is("all are done in the end", done, 4);
        due.is("and again from the first", x.terms((int) seed, 60), 4);
        due.is("no boys", new DarkShares().terms(5, 9), 0);
        // By this seed the pairs are 7 9, 8 5, 5 8, 8 3, 4 0: the one that is a swap has i behind j.
        DarkShares y = Due.told("night;boy 2 0 0;boy 1 0 0;cells 0 0;cells 1 4;");
        due.is("up to the one ahead of it", y.terms(5, 4), 0);
        due.is("i behind j", y.terms(5, 5), 1);
        due.is("once alone", y.terms(5, 60), 1);
    }

    private static void termsChangeNothing() {
        DarkShares x = Due.told("night;boy 2 0 0;boy 4 0 0;cells 0 0 1 2 3 8 9 10 11;cells 1 4 5 6;");
        x.give(7, 1);
        x.note(0, 4, 6, 0);
        long ahead = x.digest();
        due.is("terms(1021, 60)", x.terms(1021, 60), 4);
        due.is("nothing is changed", x.digest(), ahead);
        for (int j = 0; j < 12; j++) due.is("whose(" + j + ")", x.whose(j), j >= 4 && j <= 7 ? 1 : 0);
        due.is("as many swaps as ahead of it", x.swaps(-1), 32);
        due.is("what may be undone stays", x.count(5), 1);
        due.is("it is the cell that was given", x.undo(), 1);
        due.is("cell 7", x.whose(7), Due.NONE);
        due.is("none of it may be undone", x.undo(), Due.NO);
    }

    private static void termsRefused() {
        DarkShares x = twoHalves();
        due.is("terms(-1, 0)", x.terms(-1, 0), Due.BAD);
        due.is("terms(1000000, 0)", x.terms(1000000, 0), Due.BAD);
        due.is("terms(0, -1)", x.terms(0, -1), Due.BAD);
        due.is("terms(0, 61)", x.terms(0, 61), Due.BAD);
        due.is("terms(999999, 0)", x.terms(999999, 0), 0);
        due.is("status(0)", x.status(0), 4);
        due.is("no swap is done", x.count(5), 0);
    }
}
