/** Promises 11 to 13: of, worth, whose, and what the Terms say of KINDS. */
public final class WorthTest {
    private static final int PLAIN = 0, SMALL = 1, PREFECT = 2, SLEEPER = 3, AFRAID = 4, SAVER = 5;
    private static final int ALL = 4095;

    public static void main(String[] args) throws Exception {
        Due.runAll(WorthTest.class);
    }

    private static void worth(Due due, int kind, int want, int... cells) {
        int bits = Due.bits(cells);
        due.is("worth of " + bits + " to kind " + kind, Due.boys(kind).worth(0, bits), want);
    }

    /** What each cell is worth alone, and behind the one ahead of it. */
    private static void each(Due due, int kind, int[] alone, int[] behind) {
        DarkShares x = Due.boys(kind);
        for (int j = 0; j < 12; j++) due.is("cell " + j + " alone", x.worth(0, 1 << j), alone[j]);
        for (int j = 1; j < 12; j++) due.is("cell " + j + " behind its own", x.worth(0, 3 << j - 1) - alone[j - 1], behind[j]);
    }

    // ---- 11, of

    private static DarkShares two() {
        return Due.told("night;boy 3 7 19;boy 5 0 40;cells 0 2 3 4 9;cells 1 10 11;");
    }

    static void promise11EachWhat(Due due) {
        DarkShares x = two();
        int[][] dues = {{3, 7, 19, Due.bits(2, 3, 4, 9), 3 + 5 + 5 + 3}, {5, 0, 40, Due.bits(10, 11), 2 + 4 + 3}};
        for (int b = 0; b < 2; b++) {
            for (int what = 0; what < 5; what++) due.is("of(" + b + ", " + what + ")", x.of(b, what), dues[b][what]);
        }
    }

    static void promise11WhatTooSmall(Due due) {
        DarkShares x = two();
        due.refused("of(0, -1)", Due.BAD, x, () -> x.of(0, -1));
    }

    static void promise11WhatTooLarge(Due due) {
        DarkShares x = two();
        due.refused("of(0, 5)", Due.BAD, x, () -> x.of(0, 5));
    }

    static void promise11BoyTooSmall(Due due) {
        DarkShares x = two();
        due.refused("of(-1, 3)", Due.BAD, x, () -> x.of(-1, 3));
    }

    static void promise11BoyNotThere(Due due) {
        DarkShares x = two();
        due.refused("of(2, 0)", Due.BAD, x, () -> x.of(2, 0));
        DarkShares y = new DarkShares();
        due.refused("of(0, 0)", Due.BAD, y, () -> y.of(0, 0));
    }

    static void promise11BothNotAsToldIsOnce(Due due) {
        DarkShares x = two();
        due.refused("of(9, 9)", Due.BAD, x, () -> x.of(9, 9));
    }

    static void promise11OneWithoutCells(Due due) {
        DarkShares x = Due.boys(0);
        due.is("of(0, 3)", x.of(0, 3), 0);
        due.is("of(0, 4)", x.of(0, 4), 0);
    }

    static void promise11OneWithAllCells(Due due) {
        int[] all = {36, 42, 48, 58, 30, 49};
        for (int kind = 0; kind < 6; kind++) {
            DarkShares x = Due.given(Due.boys(kind), "000000000000");
            due.is("of(0, 3)", x.of(0, 3), ALL);
            due.is("of(0, 4) of kind " + kind, x.of(0, 4), all[kind]);
        }
    }

    static void promise11NothingIsChanged(Due due) {
        DarkShares x = two();
        x.give(0, 1);
        due.changesNothing("of(1, 4)", 11, x, () -> x.of(1, 4));
    }

    // ---- 12, worth

    static void promise12Plain(Due due) {
        int[] three = {3, 3, 3, 3, 3, 3, 3, 3, 3, 3, 3, 3};
        each(due, PLAIN, three, three);
    }

    static void promise12SmallHasMoreBelowThree(Due due) {
        int[] small = {5, 5, 5, 3, 3, 3, 3, 3, 3, 3, 3, 3};
        each(due, SMALL, small, small);
    }

    static void promise12PrefectHasTwiceFromFourToSeven(Due due) {
        int[] prefect = {3, 3, 3, 3, 6, 6, 6, 6, 3, 3, 3, 3};
        each(due, PREFECT, prefect, prefect);
    }

    static void promise12SleeperHasMoreBehindHisOwn(Due due) {
        int[] alone = {3, 3, 3, 3, 3, 3, 3, 3, 3, 3, 3, 3};
        int[] behind = {0, 5, 5, 5, 5, 5, 5, 5, 5, 5, 5, 5};
        each(due, SLEEPER, alone, behind);
    }

    static void promise12AfraidHasNoneFromFourToSeven(Due due) {
        int[] afraid = {5, 5, 5, 3, 0, 0, 0, 0, 3, 3, 3, 3};
        each(due, AFRAID, afraid, afraid);
    }

    static void promise12SaverHasOneLessAndThreeMoreForTheLast(Due due) {
        int[] alone = {2, 2, 2, 2, 2, 2, 2, 2, 2, 2, 2, 5};
        int[] behind = {0, 4, 4, 4, 4, 4, 4, 4, 4, 4, 4, 7};
        each(due, SAVER, alone, behind);
    }

    static void promise12NoneIsAheadOfTheFirstCell(Due due) {
        worth(due, SLEEPER, 3, 0);
        worth(due, SAVER, 2, 0);
        worth(due, SLEEPER, 3 + 3, 0, 11);
        worth(due, SAVER, 2 + 5, 0, 11);
    }

    static void promise12TheCellBehindIsNotAhead(Due due) {
        worth(due, SLEEPER, 3 + 5, 4, 5);
        worth(due, SLEEPER, 3 + 3, 4, 6);
        worth(due, SAVER, 2 + 5, 9, 11);
    }

    static void promise12AllCells(Due due) {
        int[] all = {36, 42, 48, 58, 30, 49};
        for (int kind = 0; kind < 6; kind++) due.is("4095 to kind " + kind, Due.boys(kind).worth(0, ALL), all[kind]);
    }

    static void promise12NoCells(Due due) {
        for (int kind = 0; kind < 6; kind++) due.is("0 to kind " + kind, Due.boys(kind).worth(0, 0), 0);
    }

    static void promise12CellsTooSmall(Due due) {
        DarkShares x = Due.given(Due.boys(3), "0");
        due.refused("worth(0, -1)", Due.BAD, x, () -> x.worth(0, -1));
        due.refused("worth(0, least)", Due.BAD, x, () -> x.worth(0, Integer.MIN_VALUE));
    }

    static void promise12CellsTooLarge(Due due) {
        DarkShares x = Due.given(Due.boys(3), "0");
        due.refused("worth(0, 4096)", Due.BAD, x, () -> x.worth(0, 4096));
    }

    static void promise12BoyTooSmall(Due due) {
        DarkShares x = Due.given(Due.boys(3), "0");
        due.refused("worth(-1, 0)", Due.BAD, x, () -> x.worth(-1, 0));
    }

    static void promise12BoyNotThere(Due due) {
        DarkShares x = Due.given(Due.boys(3), "0");
        due.refused("worth(1, 0)", Due.BAD, x, () -> x.worth(1, 0));
        DarkShares y = new DarkShares();
        due.refused("worth(0, 0)", Due.BAD, y, () -> y.worth(0, 0));
    }

    static void promise12AheadIsByTheSetNotByWhatHeHas(Due due) {
        DarkShares x = Due.given(Due.boys(3, 5), "000111......");
        due.is("cells 3, 5 to the sleeper", x.worth(0, Due.bits(3, 5)), 6);
        due.is("cells 3, 4 to the sleeper", x.worth(0, Due.bits(3, 4)), 8);
        due.is("cell 6 to the saver", x.worth(1, Due.bits(6)), 2);
    }

    static void promise12TheLastBoysKind(Due due) {
        DarkShares x = Due.boys(0, 1, 2, 3, 4);
        int[] dues = {3 + 3 + 3, 5 + 3 + 3, 3 + 6 + 3, 3 + 3 + 3, 5 + 0 + 3};
        for (int b = 0; b < 5; b++) due.is("cells 2, 4, 8 to " + b, x.worth(b, Due.bits(2, 4, 8)), dues[b]);
    }

    // ---- 13, whose

    static void promise13CellTooSmall(Due due) {
        DarkShares x = Due.given(Due.boys(3), "0");
        due.refused("whose(-1)", Due.OTHER_BAD, x, () -> x.whose(-1));
        due.refused("whose(least)", Due.OTHER_BAD, x, () -> x.whose(Integer.MIN_VALUE));
    }

    static void promise13CellTooLarge(Due due) {
        DarkShares x = Due.given(Due.boys(3), "0");
        due.refused("whose(12)", Due.OTHER_BAD, x, () -> x.whose(12));
        due.refused("whose(most)", Due.OTHER_BAD, x, () -> x.whose(Integer.MAX_VALUE));
    }

    static void promise13FirstAndLastCell(Due due) {
        DarkShares x = Due.given(Due.boys(0, 1, 2, 3, 4), "0..........4");
        due.is("whose(0)", x.whose(0), 0);
        due.is("whose(11)", x.whose(11), 4);
    }

    static void promise13GreyIsNobodys(Due due) {
        DarkShares x = Due.given(Due.boys(0), "0");
        due.is("whose(5)", x.whose(5), Due.NONE);
        due.is("that is not refused", x.status(0), 0);
    }
}
