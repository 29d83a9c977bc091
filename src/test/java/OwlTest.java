import java.math.BigInteger;

/** Promises 28 and 29: owls, terms. */
public final class OwlTest {
    public static void main(String[] args) throws Exception {
        Due.runAll(OwlTest.class);
    }

    // ---- 28, owls

    private static void fraction(Due due, DarkShares x, int boy, int c, long above, long below) {
        due.is("owls(" + boy + ", " + c + ")", x.owls(boy, c), 1);
        due.is("part(0) then", x.part(0), above);
        due.is("part(1) then", x.part(1), below);
    }

    private static DarkShares withFraction() {
        DarkShares x = Due.given(Due.boys(0, 2), "....01......");
        x.owls(0, 3);
        return x;
    }

    static void promise28BoyTooSmall(Due due) {
        DarkShares x = withFraction();
        due.refused("owls(-1, 0)", Due.BAD, x, () -> x.owls(-1, 0));
    }

    static void promise28BoyNotThere(Due due) {
        DarkShares x = withFraction();
        due.refused("owls(2, 0)", Due.BAD, x, () -> x.owls(2, 0));
        DarkShares y = new DarkShares();
        due.refused("owls(0, 0)", Due.BAD, y, () -> y.owls(0, 0));
    }

    static void promise28OddsTooSmall(Due due) {
        DarkShares x = withFraction();
        due.refused("owls(0, -1)", Due.BAD, x, () -> x.owls(0, -1));
    }

    static void promise28OddsTooLarge(Due due) {
        DarkShares x = withFraction();
        due.refused("owls(0, 11)", Due.BAD, x, () -> x.owls(0, 11));
    }

    static void promise28ByNoOdds(Due due) {
        int[] all = {36, 42, 48, 58, 30, 49};
        for (int kind = 0; kind < 6; kind++) fraction(due, Due.given(Due.boys(kind), "000000000000"), 0, 0, all[kind], 1);
    }

    static void promise28BySureOdds(Due due) {
        int[] all = {24, 30, 24, 58 - 20, 30, 49 - 16};
        for (int kind = 0; kind < 6; kind++) fraction(due, Due.given(Due.boys(kind), "000000000000"), 0, 10, all[kind], 1);
    }

    static void promise28OneWithoutCells(Due due) {
        DarkShares x = Due.given(Due.boys(0, 0), "....0");
        fraction(due, x, 0, 3, 21, 10);
        fraction(due, x, 1, 3, 0, 1);
    }

    static void promise28NothingIsLeft(Due due) {
        fraction(due, Due.given(Due.boys(0), "....0000"), 0, 10, 0, 1);
        fraction(due, Due.given(Due.boys(4), "....0000"), 0, 5, 0, 1);
    }

    static void promise28WhereTheMiddleBeginsAndEnds(Due due) {
        fraction(due, Due.given(Due.boys(0), "...0........"), 0, 3, 3, 1);
        fraction(due, Due.given(Due.boys(0), "....0......."), 0, 3, 21, 10);
        fraction(due, Due.given(Due.boys(0), ".......0...."), 0, 3, 21, 10);
        fraction(due, Due.given(Due.boys(0), "........0..."), 0, 3, 3, 1);
    }

    static void promise28LowestTerms(Due due) {
        DarkShares x = Due.given(Due.boys(0), "....0");
        fraction(due, x, 0, 1, 27, 10);
        fraction(due, x, 0, 2, 12, 5);
        fraction(due, x, 0, 5, 3, 2);
        fraction(due, x, 0, 0, 3, 1);
        fraction(due, x, 0, 9, 3, 10);
        fraction(due, x, 0, 8, 3, 5);
    }

    static void promise28OthersByAheadAsTheyAre(Due due) {
        // A sleeper's 8 is 5 behind his 7, though the owls are there: 5 and 3 times c of 10.
        DarkShares x = Due.given(Due.boys(3), ".......00...");
        fraction(due, x, 0, 10, 5, 1);
        fraction(due, x, 0, 9, 53, 10);
        // 4, 5 behind his 3: 3 and half of 5 and 5.
        DarkShares y = Due.given(Due.boys(3), "...000......");
        fraction(due, y, 0, 5, 8, 1);
        fraction(due, y, 0, 10, 3, 1);
    }

    static void promise28TheFractionIsTheLast(Due due) {
        DarkShares x = withFraction();
        due.is("part(0)", x.part(0), 21);
        fraction(due, x, 1, 3, 21, 5);
        x.give(4, -1);
        due.is("it stays, whatever is given", x.part(0), 21);
    }

    static void promise28NothingElseIsChanged(Due due) {
        DarkShares x = withFraction();
        due.changesNothing("owls(0, 3) again", 1, x, () -> x.owls(0, 3));
    }

    // ---- 29, terms

    /** A prefect has all but the middle, one who is afraid the middle: each pair across is a swap. */
    private static DarkShares halves() {
        return Due.given(Due.boys(2, 4), "000011110000");
    }

    /** How often, told again by numbers that have no end. */
    private static int crossed(int seed, int n) {
        boolean[] turned = new boolean[12];
        BigInteger x = BigInteger.valueOf(seed);
        int done = 0;
        for (int t = 0; t < n; t++) {
            int[] pair = new int[2];
            for (int p = 0; p < 2; p++) {
                x = x.multiply(BigInteger.valueOf(1103515245)).add(BigInteger.valueOf(12345)).mod(BigInteger.valueOf(2147483648L));
                pair[p] = x.divide(BigInteger.valueOf(65536)).mod(BigInteger.valueOf(12)).intValue();
            }
            boolean across = pair[0] / 4 == 1 != (pair[1] / 4 == 1);
            if (!across || turned[pair[0]] || turned[pair[1]]) continue;
            turned[pair[0]] = true;
            turned[pair[1]] = true;
            done++;
        }
        return done;
    }

    static void promise29SeedTooSmall(Due due) {
        DarkShares x = halves();
        due.refused("terms(-1, 60)", Due.BAD, x, () -> x.terms(-1, 60));
    }

    static void promise29SeedTooLarge(Due due) {
        DarkShares x = halves();
        due.refused("terms(1000000, 60)", Due.BAD, x, () -> x.terms(1000000, 60));
    }

    static void promise29NumberTooSmall(Due due) {
        DarkShares x = halves();
        due.refused("terms(0, -1)", Due.BAD, x, () -> x.terms(0, -1));
    }

    static void promise29NumberTooLarge(Due due) {
        DarkShares x = halves();
        due.refused("terms(0, 61)", Due.BAD, x, () -> x.terms(0, 61));
    }

    static void promise29LeastSeed(Due due) {
        for (int n = 0; n <= 60; n++) due.is("terms(0, " + n + ")", halves().terms(0, n), crossed(0, n));
    }

    static void promise29MostSeed(Due due) {
        for (int n = 0; n <= 60; n++) due.is("terms(999999, " + n + ")", halves().terms(999999, n), crossed(999999, n));
    }

    static void promise29WhatIsLeftOverOfManySeeds(Due due) {
        DarkShares x = halves();
        for (int seed = 17; seed < 999999; seed += 9973) due.is("terms(" + seed + ", 9)", x.terms(seed, 9), crossed(seed, 9));
    }

    static void promise29NoneOfNone(Due due) {
        due.is("terms(5, 0)", halves().terms(5, 0), 0);
        due.is("terms(999999, 0)", halves().terms(999999, 0), 0);
    }

    static void promise29NoBoys(Due due) {
        due.is("terms(5, 60)", new DarkShares().terms(5, 60), 0);
    }

    static void promise29AllGreyOrAllOnes(Due due) {
        due.is("all grey", Due.boys(2, 4).terms(5, 60), 0);
        due.is("all one's", Due.given(Due.boys(2, 4), "000000000000").terms(5, 60), 0);
    }

    static void promise29EitherOfBothMayBeTheLarger(Due due) {
        // By this seed the pairs are 7 9, 8 5, 5 8, 8 3, 4 0.
        DarkShares x = Due.given(Due.boys(2, 1), "0...1.......");
        due.is("terms(5, 4)", x.terms(5, 4), 0);
        due.is("terms(5, 5)", x.terms(5, 5), 1);
        due.is("the first, 7 9", Due.given(Due.boys(2, 4), ".......1.0..").terms(5, 1), 1);
        due.is("the second, 8 5", Due.given(Due.boys(2, 4), ".....1..0...").terms(5, 2), 1);
    }

    static void promise29BothMustGain(Due due) {
        due.is("one has as much", Due.given(Due.boys(2, 0), ".......1.0..").terms(5, 1), 0);
        due.is("the other has as much", Due.given(Due.boys(0, 4), ".......1.0..").terms(5, 1), 0);
        due.is("both lose", Due.given(Due.boys(2, 4), ".......0.1..").terms(5, 1), 0);
    }

    static void promise29EachCountsForThoseBehindIt(Due due) {
        // 8 5 is done, so that 5 8 is none any more.
        due.is("terms(5, 3)", Due.given(Due.boys(2, 4), ".....1..0...").terms(5, 3), 1);
    }

    static void promise29NothingIsChanged(Due due) {
        DarkShares x = Due.given(Due.told("night;boy 2 0 0;boy 4 0 0;cells 0 0 1 2 3 8 9 10 11;cells 1 4 5 6;"), "000011110000");
        x.note(0, 4, 6, 0);
        due.changesNothing("terms(1021, 60)", 4, x, () -> x.terms(1021, 60));
        due.changesNothing("terms(1021, 60) again", 4, x, () -> x.terms(1021, 60));
        due.is("the cell that was given may be undone", x.undo(), 1);
        due.is("cells", Due.cells(x), "0000111.0000");
    }
}
