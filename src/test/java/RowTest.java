/** Promises 21 and 22: longest, together. */
public final class RowTest {
    public static void main(String[] args) throws Exception {
        Due.runAll(RowTest.class);
    }

    private static void longest(Due due, String cells, int from, int length) {
        DarkShares x = Due.given(Due.boys(0, 0, 0), cells);
        due.is("longest(0) of " + cells, x.longest(0), from);
        due.is("longest(1) of " + cells, x.longest(1), length);
    }

    // ---- 21, longest

    static void promise21WhatTooSmall(Due due) {
        DarkShares x = Due.given(Due.boys(0), "00");
        due.refused("longest(-1)", Due.BAD, x, () -> x.longest(-1));
    }

    static void promise21WhatTooLarge(Due due) {
        DarkShares x = Due.given(Due.boys(0), "00");
        due.refused("longest(2)", Due.BAD, x, () -> x.longest(2));
    }

    static void promise21AllGrey(Due due) {
        longest(due, "............", Due.NONE, 0);
        DarkShares x = new DarkShares();
        due.changesNothing("longest(0)", Due.NONE, x, () -> x.longest(0));
        due.changesNothing("longest(1)", 0, x, () -> x.longest(1));
    }

    static void promise21OneCell(Due due) {
        longest(due, "0...........", 0, 1);
        longest(due, "...........2", 11, 1);
    }

    static void promise21AllCells(Due due) {
        longest(due, "000000000000", 0, 12);
    }

    static void promise21GreyIsNoPiece(Due due) {
        longest(due, "......1.....", 6, 1);
    }

    static void promise21UpToTheLastCell(Due due) {
        longest(due, "00.1100..222", 9, 3);
    }

    static void promise21OfLikeOnesTheFirst(Due due) {
        longest(due, "0.11.22.00.1", 2, 2);
        longest(due, "0.1.2.0.1.2.", 0, 1);
    }

    static void promise21AnothersCellParts(Due due) {
        longest(due, "0001000022..", 4, 4);
    }

    static void promise21GreyParts(Due due) {
        longest(due, "00.00.0.1...", 0, 2);
    }

    static void promise21TheLastAndTheFirstAreNotBesideOneAnother(Due due) {
        longest(due, "0..........0", 0, 1);
        longest(due, "0..11.....00", 3, 2);
    }

    static void promise21NothingIsChanged(Due due) {
        DarkShares x = Due.given(Due.boys(0, 0), "011");
        due.changesNothing("longest(0)", 1, x, () -> x.longest(0));
        due.changesNothing("longest(1)", 2, x, () -> x.longest(1));
    }

    // ---- 22, together

    private static void together(Due due, String cells, int want) {
        DarkShares x = Due.given(Due.boys(0, 0, 0), cells);
        due.is("together(0, 1) of " + cells, x.together(0, 1), want);
        due.is("together(1, 0) of " + cells, x.together(1, 0), want);
    }

    static void promise22FirstTooSmall(Due due) {
        DarkShares x = Due.given(Due.boys(0, 0), "01");
        due.refused("together(-1, 0)", Due.BAD, x, () -> x.together(-1, 0));
    }

    static void promise22FirstNotThere(Due due) {
        DarkShares x = Due.given(Due.boys(0, 0), "01");
        due.refused("together(2, 0)", Due.BAD, x, () -> x.together(2, 0));
    }

    static void promise22SecondTooSmall(Due due) {
        DarkShares x = Due.given(Due.boys(0, 0), "01");
        due.refused("together(0, -1)", Due.BAD, x, () -> x.together(0, -1));
    }

    static void promise22SecondNotThere(Due due) {
        DarkShares x = Due.given(Due.boys(0, 0), "01");
        due.refused("together(0, 2)", Due.BAD, x, () -> x.together(0, 2));
    }

    static void promise22AlikeIsBad(Due due) {
        DarkShares x = Due.given(Due.boys(0, 0), "01");
        due.refused("together(0, 0)", Due.BAD, x, () -> x.together(0, 0));
        due.refused("together(1, 1)", Due.BAD, x, () -> x.together(1, 1));
    }

    static void promise22NoBoys(Due due) {
        DarkShares x = new DarkShares();
        due.refused("together(0, 1)", Due.BAD, x, () -> x.together(0, 1));
        due.refused("together(-1, -1)", Due.BAD, x, () -> x.together(-1, -1));
    }

    static void promise22NeitherHasOne(Due due) {
        together(due, "............", 0);
        together(due, "222222222222", 0);
    }

    static void promise22OneOfBothHasNone(Due due) {
        together(due, "..000.......", 3);
    }

    static void promise22AllCells(Due due) {
        together(due, "010101010101", 12);
        together(due, "000000111111", 12);
    }

    static void promise22EndToEnd(Due due) {
        together(due, "..0011......", 4);
        together(due, "..1100......", 4);
        together(due, "0.01.1101.11", 4);
    }

    static void promise22UpToTheLastCell(Due due) {
        together(due, "01......0101", 4);
    }

    static void promise22GreyParts(Due due) {
        together(due, "000.111.....", 3);
    }

    static void promise22AThirdOnesCellParts(Due due) {
        together(due, "000211......", 3);
    }

    static void promise22TheLastAndTheFirstAreNotBesideOneAnother(Due due) {
        together(due, "0..........1", 1);
    }

    static void promise22TheLastBoys(Due due) {
        DarkShares x = Due.given(Due.boys(0, 0, 0, 0, 0), "012344330");
        due.is("together(3, 4)", x.together(3, 4), 5);
        due.is("together(4, 0)", x.together(4, 0), 2);
    }

    static void promise22NothingIsChanged(Due due) {
        DarkShares x = Due.given(Due.boys(0, 0), "011");
        due.changesNothing("together(0, 1)", 3, x, () -> x.together(0, 1));
    }
}
