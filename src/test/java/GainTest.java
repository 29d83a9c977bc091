/** Promises 18 to 20: swaps, steps, sale. */
public final class GainTest {
    public static void main(String[] args) throws Exception {
        Due.runAll(GainTest.class);
    }

    /** A plain one, a prefect with cells at the edge, one who is afraid with cells in the middle. */
    private static DarkShares three() {
        return Due.given(Due.boys(0, 2, 4), "1..0.22..1..");
    }

    // ---- 18, swaps

    private static void swaps(Due due, DarkShares x, int... all) {
        due.is("swaps(-1)", x.swaps(-1), all.length);
        for (int k = 0; k < all.length; k++) due.is("swaps(" + k + ")", x.swaps(k), all[k]);
        due.is("swaps(" + all.length + ")", x.swaps(all.length), Due.NOT_SO_MANY);
    }

    static void promise18NumberTooSmall(Due due) {
        DarkShares x = three();
        due.refused("swaps(-2)", Due.OTHER_BAD, x, () -> x.swaps(-2));
        due.refused("swaps(least)", Due.OTHER_BAD, x, () -> x.swaps(Integer.MIN_VALUE));
    }

    static void promise18EachRising(Due due) {
        swaps(due, three(), 5, 6, 509, 609);
    }

    static void promise18NotSoMany(Due due) {
        DarkShares x = three();
        due.changesNothing("swaps(4)", Due.NOT_SO_MANY, x, () -> x.swaps(4));
        due.changesNothing("swaps(most)", Due.NOT_SO_MANY, x, () -> x.swaps(Integer.MAX_VALUE));
    }

    static void promise18NoBoys(Due due) {
        swaps(due, new DarkShares());
    }

    static void promise18AllGrey(Due due) {
        swaps(due, Due.boys(2, 4));
    }

    static void promise18AllOneBoys(Due due) {
        swaps(due, Due.given(Due.boys(2, 4), "000000000000"));
    }

    static void promise18NeitherIsGrey(Due due) {
        swaps(due, Due.given(Due.boys(2), "0"));
        swaps(due, Due.given(Due.boys(4), "....0"));
    }

    static void promise18OneGainsTheOtherHasAsMuch(Due due) {
        swaps(due, Due.given(Due.boys(0, 2), ".....0...1.."));
        swaps(due, Due.given(Due.boys(2, 0), ".....1...0.."));
    }

    static void promise18OneGainsTheOtherLoses(Due due) {
        swaps(due, Due.given(Due.boys(1, 4), "1....0......"));
        swaps(due, Due.given(Due.boys(4, 1), "0....1......"));
    }

    static void promise18FirstAndLastCell(Due due) {
        // A small one gains by cell 0, a saver by cell 11.
        swaps(due, Due.given(Due.boys(5, 1), "0..........1"), 11);
        swaps(due, Due.given(Due.boys(1, 5), "0..........1"));
    }

    static void promise18CellsBesideOneAnother(Due due) {
        swaps(due, Due.given(Due.boys(4, 2), "...10......."), 304);
        swaps(due, Due.given(Due.boys(4, 2), ".......01..."), 708);
        swaps(due, Due.given(Due.boys(5, 0), "..........01"));
    }

    static void promise18ByWhatIsAhead(Due due) {
        // Sleepers at 0, 3 and 1, 4: each has two beside one another then.
        swaps(due, Due.given(Due.boys(3, 3), "01.01......."), 4, 103);
    }

    static void promise18TheTwoLastCells(Due due) {
        // A saver has 10 and gains by 11; a sleeper has 9 and 11 and gains by 10.
        swaps(due, Due.given(Due.boys(5, 3), ".........101"), 1011);
    }

    static void promise18AllThatThereMayBe(Due due) {
        DarkShares x = Due.given(Due.boys(2, 4), "000011110000");
        due.is("each of eight by each of four", x.swaps(-1), 32);
        due.is("the first", x.swaps(0), 4);
        due.is("the last", x.swaps(31), 711);
        due.is("one more", x.swaps(32), Due.NOT_SO_MANY);
    }

    static void promise18NothingIsChanged(Due due) {
        DarkShares x = three();
        due.changesNothing("swaps(-1)", 4, x, () -> x.swaps(-1));
        due.changesNothing("swaps(3)", 609, x, () -> x.swaps(3));
    }

    // ---- 19, steps

    static void promise19NoBoys(Due due) {
        due.is("steps()", new DarkShares().steps(), 0);
    }

    static void promise19NoSwap(Due due) {
        due.is("steps()", Due.given(Due.boys(0, 0), "01").steps(), 0);
    }

    static void promise19TheFirstIsDoneAgainAndAgain(Due due) {
        DarkShares x = three();
        due.is("0 for 5, then 6 for 9", x.steps(), 2);
        x.give(0, -1);
        due.is("5 for 9", x.steps(), 1);
        due.is("four", Due.given(Due.boys(2, 4), "000011110000").steps(), 4);
    }

    static void promise19TheFirstMayLeaveNoOther(Due due) {
        DarkShares x = Due.given(Due.boys(3, 3), "01.01.......");
        due.is("of two swaps", x.swaps(-1), 2);
        due.is("one is done", x.steps(), 1);
    }

    static void promise19OneMayOpenAnother(Due due) {
        DarkShares x = Due.given(Due.boys(5, 4, 5), "2221010.1210");
        due.is("one swap at first", x.swaps(-1), 1);
        due.is("four till there is none", x.steps(), 4);
    }

    static void promise19AsManyAsCanBeFound(Due due) {
        // No night has 99: a cell is worth 7 at most, and each step adds 2 or more to what all are worth, so 42 at most.
        due.is("steps()", Due.given(Due.boys(4, 5, 2), "121000012122").steps(), 7);
    }

    static void promise19NothingIsChanged(Due due) {
        DarkShares x = three();
        due.changesNothing("steps()", 2, x, x::steps);
        due.changesNothing("steps() again", 2, x, x::steps);
    }

    // ---- 20, sale

    private static void sale(Due due, DarkShares x, int j, int boy, int more) {
        due.is("sale(" + j + ", 0)", x.sale(j, 0), boy);
        due.is("sale(" + j + ", 1)", x.sale(j, 1), more);
    }

    private static void noSale(Due due, DarkShares x, int j) {
        sale(due, x, j, Due.NONE, Due.NONE);
    }

    static void promise20CellTooSmall(Due due) {
        DarkShares x = three();
        due.refused("sale(-1, 0)", Due.BAD, x, () -> x.sale(-1, 0));
    }

    static void promise20CellTooLarge(Due due) {
        DarkShares x = three();
        due.refused("sale(12, 1)", Due.BAD, x, () -> x.sale(12, 1));
    }

    static void promise20WhatTooSmall(Due due) {
        DarkShares x = three();
        due.refused("sale(0, -1)", Due.BAD, x, () -> x.sale(0, -1));
    }

    static void promise20WhatTooLarge(Due due) {
        DarkShares x = three();
        due.refused("sale(0, 2)", Due.BAD, x, () -> x.sale(0, 2));
    }

    static void promise20NoBoys(Due due) {
        DarkShares x = new DarkShares();
        due.changesNothing("sale(0, 0)", Due.NONE, x, () -> x.sale(0, 0));
        due.changesNothing("sale(0, 1)", Due.NONE, x, () -> x.sale(0, 1));
    }

    static void promise20NotItsOwn(Due due) {
        DarkShares x = Due.given(Due.boys(2), "....0");
        noSale(due, x, 4);
    }

    static void promise20AGreyOneLosesNothing(Due due) {
        DarkShares x = Due.boys(2);
        sale(due, x, 4, 0, 6);
        sale(due, x, 0, 0, 3);
        sale(due, x, 11, 0, 3);
    }

    static void promise20NobodyMoreThanNought(Due due) {
        DarkShares x = Due.told("night;boy 0 0 40;boy 0 0 40;boy 4 0 40;cells 0 5;");
        noSale(due, x, 5);
        DarkShares y = Due.boys(4, 4);
        noSale(due, y, 5);
    }

    static void promise20OneMoreThanNought(Due due) {
        // A sleeper's cell behind his own is 5 to him, 6 to a prefect.
        DarkShares x = Due.told("night;boy 3 0 40;boy 2 0 40;cells 0 4 5;");
        sale(due, x, 5, 1, 1);
    }

    static void promise20BetweenTwoOfHisItIsMore(Due due) {
        // 3 and 5 and 5 are 13, without the middle one 6.
        DarkShares x = Due.told("night;boy 3 0 40;boy 2 0 40;cells 0 4 5 6;");
        noSale(due, x, 5);
        sale(due, x, 6, 1, 1);
    }

    static void promise20AheadOfTheBuyersItIsMore(Due due) {
        DarkShares x = Due.given(Due.boys(0, 3), "...1........");
        sale(due, x, 2, 1, 5);
        sale(due, x, 4, 1, 5);
        sale(due, x, 5, 0, 3);
    }

    static void promise20TheMostIsLast(Due due) {
        DarkShares x = Due.boys(5, 0, 1, 2);
        sale(due, x, 7, 3, 6);
        sale(due, x, 2, 2, 5);
        sale(due, x, 3, 1, 3);
        sale(due, x, 11, 0, 5);
    }

    static void promise20OfLikeOnesTheFirst(Due due) {
        DarkShares x = Due.boys(0, 2, 2);
        sale(due, x, 5, 1, 6);
        sale(due, x, 9, 0, 3);
    }

    static void promise20JamAsMuchAsIsLost(Due due) {
        DarkShares x = Due.told("night;boy 0 0 0;boy 2 0 3;cells 0 5;");
        sale(due, x, 5, 1, 3);
    }

    static void promise20JamOneLessThanIsLost(Due due) {
        DarkShares x = Due.told("night;boy 0 0 0;boy 2 0 2;cells 0 5;");
        noSale(due, x, 5);
    }

    static void promise20OneWhoHasTheJamAheadOfOneWhoHasNot(Due due) {
        DarkShares x = Due.told("night;boy 0 0 40;boy 2 0 2;boy 3 0 3;cells 0 5;cells 2 4;");
        sale(due, x, 5, 2, 2);
    }

    static void promise20WithoutJamWhereNothingIsLost(Due due) {
        DarkShares x = Due.given(Due.boys(4, 0), "......0.....");
        sale(due, x, 6, 1, 3);
    }

    static void promise20WithoutJamForAGreyOne(Due due) {
        sale(due, Due.boys(0), 6, 0, 3);
    }

    static void promise20FirstAndLastCell(Due due) {
        DarkShares x = Due.told("night;boy 1 0 40;boy 5 0 40;cells 0 11;cells 1 0;");
        sale(due, x, 0, 0, 3);
        sale(due, x, 11, 1, 2);
    }

    static void promise20NothingIsChanged(Due due) {
        DarkShares x = three();
        x.sell(2, 0, 0);
        due.changesNothing("sale(4, 0)", 1, x, () -> x.sale(4, 0));
        due.changesNothing("sale(4, 1)", 6, x, () -> x.sale(4, 1));
    }
}
