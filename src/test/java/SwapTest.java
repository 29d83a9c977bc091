/** Promises 8 to 10: swap, sell, undo. */
public final class SwapTest {
    public static void main(String[] args) throws Exception {
        Due.runAll(SwapTest.class);
    }

    /** A plain boy with 10 of jam has cells 0, 1; a small one with 40 has 5, 11; the rest is grey. */
    private static DarkShares two() {
        return Due.told("night;boy 0 0 10;boy 1 0 40;cells 0 0 1;cells 1 5 11;");
    }

    // ---- 8, swap

    static void promise08FirstTooSmall(Due due) {
        DarkShares x = two();
        due.refused("swap(-1, 0)", Due.BAD, x, () -> x.swap(-1, 0));
    }

    static void promise08FirstTooLarge(Due due) {
        DarkShares x = two();
        due.refused("swap(12, 0)", Due.BAD, x, () -> x.swap(12, 0));
    }

    static void promise08SecondTooSmall(Due due) {
        DarkShares x = two();
        due.refused("swap(0, -1)", Due.BAD, x, () -> x.swap(0, -1));
    }

    static void promise08SecondTooLarge(Due due) {
        DarkShares x = two();
        due.refused("swap(0, 12)", Due.BAD, x, () -> x.swap(0, 12));
    }

    static void promise08AlikeIsBad(Due due) {
        DarkShares x = two();
        due.refused("swap(5, 5)", Due.BAD, x, () -> x.swap(5, 5));
    }

    static void promise08BadAheadOfNo(Due due) {
        DarkShares x = two();
        due.refused("alike and grey", Due.BAD, x, () -> x.swap(7, 7));
        due.refused("too large, and the other grey", Due.BAD, x, () -> x.swap(7, 12));
    }

    static void promise08FirstIsGrey(Due due) {
        DarkShares x = two();
        due.refused("swap(2, 0)", Due.NO, x, () -> x.swap(2, 0));
    }

    static void promise08SecondIsGrey(Due due) {
        DarkShares x = two();
        due.refused("swap(0, 2)", Due.NO, x, () -> x.swap(0, 2));
    }

    static void promise08BothAreGrey(Due due) {
        DarkShares x = two();
        due.refused("swap(2, 3)", Due.NO, x, () -> x.swap(2, 3));
        DarkShares y = new DarkShares();
        due.refused("without boys", Due.NO, y, () -> y.swap(3, 2));
    }

    static void promise08BothAreOneBoys(Due due) {
        DarkShares x = two();
        due.refused("swap(0, 1)", Due.NO, x, () -> x.swap(0, 1));
        due.refused("swap(11, 5)", Due.NO, x, () -> x.swap(11, 5));
    }

    static void promise08FirstAndLastCell(Due due) {
        DarkShares x = two();
        due.is("swap(0, 11)", x.swap(0, 11), 1);
        due.is("cells", Due.cells(x), "10...1.....0");
        due.is("swap(11, 0)", x.swap(11, 0), 1);
        due.is("cells", Due.cells(x), "00...1.....1");
    }

    static void promise08WhoeverGains(Due due) {
        DarkShares x = Due.told("night;boy 4 0 0;boy 2 0 0;cells 0 0;cells 1 4;");
        due.is("both lose", x.swap(0, 4), 1);
        due.is("to the one who is afraid", x.of(0, 4), 0);
        due.is("to the prefect", x.of(1, 4), 3);
        due.is("both gain", x.swap(0, 4), 1);
        due.is("to the prefect again", x.of(1, 4), 6);
    }

    static void promise08JamStays(Due due) {
        DarkShares x = two();
        x.swap(0, 5);
        due.is("jam of 0", x.of(0, 2), 10);
        due.is("jam of 1", x.of(1, 2), 40);
    }

    static void promise08ItMayBeUndone(Due due) {
        DarkShares x = two();
        x.swap(0, 5);
        due.is("count(5)", x.count(5), 1);
        due.is("undo()", x.undo(), 8);
        due.is("cells", Due.cells(x), "00...1.....1");
    }

    // ---- 9, sell

    static void promise09CellTooSmall(Due due) {
        DarkShares x = two();
        due.refused("sell(-1, 0, 0)", Due.BAD, x, () -> x.sell(-1, 0, 0));
    }

    static void promise09CellTooLarge(Due due) {
        DarkShares x = two();
        due.refused("sell(12, 0, 0)", Due.BAD, x, () -> x.sell(12, 0, 0));
    }

    static void promise09BoyTooSmall(Due due) {
        DarkShares x = two();
        due.refused("sell(0, -1, 0)", Due.BAD, x, () -> x.sell(0, -1, 0));
        due.refused("a grey one to nobody", Due.BAD, x, () -> x.sell(3, -1, 0));
    }

    static void promise09BoyNotThere(Due due) {
        DarkShares x = two();
        due.refused("sell(0, 2, 0)", Due.BAD, x, () -> x.sell(0, 2, 0));
        DarkShares y = new DarkShares();
        due.refused("sell(0, 0, 0)", Due.BAD, y, () -> y.sell(0, 0, 0));
    }

    static void promise09JamTooSmall(Due due) {
        DarkShares x = two();
        due.refused("sell(0, 1, -1)", Due.BAD, x, () -> x.sell(0, 1, -1));
    }

    static void promise09JamTooLarge(Due due) {
        DarkShares x = two();
        due.refused("sell(0, 1, 41)", Due.BAD, x, () -> x.sell(0, 1, 41));
    }

    static void promise09JamTooLargeForOneWhoHasMore(Due due) {
        DarkShares x = Due.told("night;boy 0 0 40;boy 0 0 40;cells 0 0;");
        x.sell(0, 1, 40);
        due.is("jam of 0", x.of(0, 2), 80);
        due.refused("sell(0, 0, 41)", Due.BAD, x, () -> x.sell(0, 0, 41));
        due.is("sell(0, 0, 40)", x.sell(0, 0, 40), 40);
    }

    static void promise09BadAheadOfNo(Due due) {
        DarkShares x = two();
        due.refused("his, for 41", Due.BAD, x, () -> x.sell(0, 0, 41));
        due.refused("his, for -1", Due.BAD, x, () -> x.sell(0, 0, -1));
    }

    static void promise09ItIsHis(Due due) {
        DarkShares x = two();
        due.refused("sell(0, 0, 0)", Due.NO, x, () -> x.sell(0, 0, 0));
        due.refused("sell(11, 1, 40)", Due.NO, x, () -> x.sell(11, 1, 40));
    }

    static void promise09HeHasNotSoMuch(Due due) {
        DarkShares x = two();
        due.refused("another's, for one more than he has", Due.NO, x, () -> x.sell(5, 0, 11));
        due.refused("a grey one, for one more than he has", Due.NO, x, () -> x.sell(3, 0, 11));
    }

    static void promise09ForAllHeHas(Due due) {
        DarkShares x = two();
        due.is("another's", x.sell(5, 0, 10), 0);
        due.is("jam of its boy", x.of(1, 2), 50);
        due.is("cells", Due.cells(x), "00...0.....1");
    }

    static void promise09ForForty(Due due) {
        DarkShares x = two();
        due.is("sell(0, 1, 40)", x.sell(0, 1, 40), 0);
        due.is("jam of its boy", x.of(0, 2), 50);
    }

    static void promise09ForNothing(Due due) {
        DarkShares x = two();
        due.is("sell(0, 1, 0)", x.sell(0, 1, 0), 40);
        due.is("jam of its boy", x.of(0, 2), 10);
        due.is("cells", Due.cells(x), "10...1.....1");
        DarkShares y = Due.boys(0);
        due.is("to one who has none", y.sell(0, 0, 0), 0);
    }

    static void promise09AGreyOnesJamIsNobodys(Due due) {
        DarkShares x = two();
        due.is("sell(3, 1, 15)", x.sell(3, 1, 15), 25);
        due.is("jam of 0", x.of(0, 2), 10);
        due.is("jam of all", x.count(2), 35);
        due.is("cells", Due.cells(x), "00.1.1.....1");
    }

    static void promise09ItsBoysJam(Due due) {
        DarkShares x = two();
        due.is("sell(0, 1, 33)", x.sell(0, 1, 33), 7);
        due.is("jam of its boy", x.of(0, 2), 43);
        due.is("jam of all", x.count(2), 50);
    }

    static void promise09FirstAndLastCell(Due due) {
        DarkShares x = two();
        due.is("sell(0, 1, 1)", x.sell(0, 1, 1), 39);
        due.is("sell(11, 0, 1)", x.sell(11, 0, 1), 10);
        due.is("cells", Due.cells(x), "10...1.....0");
    }

    static void promise09ItMayBeUndone(Due due) {
        DarkShares x = two();
        x.sell(0, 1, 33);
        due.is("count(5)", x.count(5), 1);
        due.is("undo()", x.undo(), 8);
        due.is("jam of 0", x.of(0, 2), 10);
        due.is("jam of 1", x.of(1, 2), 40);
        due.is("cells", Due.cells(x), "00...1.....1");
    }

    // ---- 10, undo

    static void promise10NoneMayBe(Due due) {
        DarkShares x = new DarkShares();
        due.refused("undo()", Due.NO, x, x::undo);
        DarkShares y = two();
        y.give(2, 0);
        y.undo();
        due.refused("undo() again", Due.NO, y, y::undo);
    }

    static void promise10OfACellGiven(Due due) {
        DarkShares x = two();
        x.give(2, 1);
        due.is("undo()", x.undo(), 8);
        due.is("cells", Due.cells(x), "00...1.....1");
    }

    static void promise10OfACellMadeGrey(Due due) {
        DarkShares x = two();
        x.give(11, -1);
        due.is("undo()", x.undo(), 8);
        due.is("cells", Due.cells(x), "00...1.....1");
    }

    static void promise10OfACellThatWasHis(Due due) {
        DarkShares x = two();
        x.give(2, 0);
        x.give(2, 0);
        due.is("undo()", x.undo(), 7);
        due.is("cells", Due.cells(x), "000..1.....1");
        due.is("undo() again", x.undo(), 8);
    }

    static void promise10OneBehindTheOther(Due due) {
        DarkShares x = two();
        String first = Due.seen(x);
        x.give(2, 0);
        String second = Due.seen(x);
        x.swap(2, 5);
        String third = Due.seen(x);
        x.sell(5, 1, 7);
        due.is("the sale", x.undo(), 7);
        due.is("behind the swap", Due.seen(x), third);
        due.is("the swap", x.undo(), 7);
        due.is("behind the cell given", Due.seen(x), second);
        due.is("the cell given", x.undo(), 8);
        due.is("as at first", Due.seen(x), first);
    }

    static void promise10AllAndNoneAreGrey(Due due) {
        DarkShares x = Due.given(Due.boys(0), "0");
        due.is("twelve", x.undo(), 12);
        DarkShares y = Due.told("night;boy 0 0 0;cells 0 0 1 2 3 4 5 6 7 8 9 10 11;");
        y.give(5, -1);
        due.is("none", y.undo(), 0);
    }

    static void promise10EightAreThere(Due due) {
        DarkShares x = Due.given(Due.boys(0), "00000000");
        due.is("count(5)", x.count(5), 8);
        for (int n = 1; n <= 8; n++) due.is("undo " + n, x.undo(), 4 + n);
        due.is("cells", Due.cells(x), "............");
    }

    static void promise10EightAtMost(Due due) {
        DarkShares x = Due.given(Due.boys(0), "00000000000");
        due.is("count(5) behind eleven", x.count(5), 8);
        for (int n = 1; n <= 8; n++) due.is("undo " + n, x.undo(), 1 + n);
        due.refused("the ninth", Due.NO, x, x::undo);
        due.is("the first three stay", Due.cells(x), "000.........");
    }

    static void promise10EightAtMostWithTheirJam(Due due) {
        DarkShares x = Due.told("night;boy 0 0 40;");
        for (int j = 0; j < 12; j++) due.is("sell(" + j + ", 0, " + j % 3 + ")", x.sell(j, 0, j % 3), 40 - new int[] {0, 1, 3}[j % 3] - j / 3 * 3);
        for (int j = 11; j >= 4; j--) {
            x.undo();
            due.is("jam ahead of cell " + j, x.of(0, 2), 40 - new int[] {0, 0, 1}[j % 3] - j / 3 * 3);
        }
        due.is("the ninth", x.undo(), Due.NO);
    }

    static void promise10JamOfTheFifthBoy(Due due) {
        DarkShares x = Due.told("night;boy 0 0 1;boy 0 0 2;boy 0 0 3;boy 0 0 4;boy 0 0 5;cells 4 7;");
        due.is("sell(7, 0, 1)", x.sell(7, 0, 1), 0);
        due.is("he was paid", x.of(4, 2), 6);
        due.is("sell(0, 4, 6)", x.sell(0, 4, 6), 0);
        x.undo();
        due.is("ahead of what he bought", x.of(4, 2), 6);
        x.undo();
        for (int b = 0; b < 5; b++) due.is("jam of " + b + " at first", x.of(b, 2), b + 1);
    }

    static void promise10AgainBehindAnUndo(Due due) {
        DarkShares x = Due.given(Due.boys(0), "00000000000");
        for (int n = 0; n < 3; n++) x.undo();
        due.is("five are left", x.count(5), 5);
        x.give(11, 0);
        due.is("and one more", x.count(5), 6);
        due.is("undo()", x.undo(), 4);
        due.is("cells", Due.cells(x), "00000000....");
        due.is("undo() again", x.undo(), 5);
    }

    static void promise10NoneBehindABoy(Due due) {
        DarkShares x = Due.given(Due.boys(0), "000");
        x.boy(0, 0, 0);
        due.refused("undo()", Due.NO, x, x::undo);
        x.give(3, 1);
        due.is("what is given behind him", x.undo(), 9);
        due.is("undo() again", x.undo(), Due.NO);
    }

    static void promise10NotesStay(Due due) {
        DarkShares x = Due.boys(0);
        x.note(0, 5, 3, 0);
        x.give(0, 0);
        x.note(0, 6, 3, 0);
        x.undo();
        due.is("count(4)", x.count(4), 2);
        x.give(0, 0);
        x.forget();
        x.undo();
        due.is("count(4)", x.count(4), 0);
    }

    static void promise10NotesAndForgetAreNone(Due due) {
        DarkShares x = Due.given(Due.boys(0), "0");
        x.note(0, 5, 3, 0);
        x.forget();
        due.is("count(5)", x.count(5), 1);
    }

    static void promise10TheTextAndTheFractionStay(Due due) {
        DarkShares x = Due.given(Due.boys(0), "....0");
        x.owls(0, 5);
        x.type('n');
        x.undo();
        due.is("part(0)", x.part(0), 3);
        due.is("part(1)", x.part(1), 2);
        due.is("count(6)", x.count(6), 1);
    }

    static void promise10ImagesStay(Due due) {
        DarkShares x = Due.given(Due.boys(0), "00");
        x.image(0);
        x.undo();
        x.from(0);
        due.is("cells", Due.cells(x), "00..........");
    }

    static void promise10WhatIsRefusedIsNone(Due due) {
        DarkShares x = two();
        x.give(2, 0);
        x.give(12, 0);
        x.give(0, 2);
        x.swap(0, 1);
        x.swap(0, 0);
        x.sell(0, 0, 0);
        x.sell(0, 1, 41);
        due.is("count(5)", x.count(5), 1);
    }
}
