/** Promises 30 to 35: part, image, from, status, count, digest. */
public final class KeptTest {
    public static void main(String[] args) throws Exception {
        Due.runAll(KeptTest.class);
    }

    // ---- 30, part

    static void promise30AtFirst(Due due) {
        due.is("part(0)", new DarkShares().part(0), 0);
        due.is("part(1)", new DarkShares().part(1), 1);
    }

    static void promise30AboveAndBelow(Due due) {
        DarkShares x = Due.given(Due.boys(0), "....0");
        x.owls(0, 5);
        due.changesNothing("part(0)", 3, x, () -> x.part(0));
        due.changesNothing("part(1)", 2, x, () -> x.part(1));
    }

    static void promise30WhatTooSmall(Due due) {
        DarkShares x = Due.given(Due.boys(0), "....0");
        due.refused("part(-1)", Due.BAD, x, () -> x.part(-1));
    }

    static void promise30WhatTooLarge(Due due) {
        DarkShares x = Due.given(Due.boys(0), "....0");
        due.refused("part(2)", Due.BAD, x, () -> x.part(2));
    }

    // ---- 31, image

    static void promise31NumberTooSmall(Due due) {
        DarkShares x = Due.given(Due.boys(0), "0");
        long ahead = x.digest();
        due.is("image(-1)", x.image(-1), Due.BAD);
        due.is("status(0)", x.status(0), 1);
        due.is("digest()", x.digest(), ahead);
        due.is("from(0)", x.from(0), Due.NO);
        due.is("from(1)", x.from(1), Due.NO);
    }

    static void promise31NumberTooLarge(Due due) {
        DarkShares x = Due.given(Due.boys(0), "0");
        long ahead = x.digest();
        due.is("image(2)", x.image(2), Due.BAD);
        due.is("status(0)", x.status(0), 1);
        due.is("digest()", x.digest(), ahead);
        due.is("from(0)", x.from(0), Due.NO);
        due.is("from(1)", x.from(1), Due.NO);
    }

    static void promise31OneLeavesTheOther(Due due) {
        DarkShares x = Due.given(Due.boys(0), "0");
        due.is("image(0)", x.image(0), 1);
        due.is("from(1)", x.from(1), Due.NO);
        x.give(1, 0);
        due.is("image(1)", x.image(1), 1);
        due.is("from(0)", x.from(0), 1);
        due.is("cells of image 0", Due.cells(x), "0...........");
        due.is("from(1)", x.from(1), 1);
        due.is("cells of image 1", Due.cells(x), "00..........");
    }

    static void promise31OfANewNight(Due due) {
        DarkShares x = new DarkShares();
        due.is("image(0)", x.image(0), 1);
        x.boy(0, 0, 0);
        x.give(0, 0);
        due.is("from(0)", x.from(0), 1);
        due.is("digest()", x.digest(), new DarkShares().digest());
    }

    static void promise31ANewerTakesThePlace(Due due) {
        DarkShares x = Due.given(Due.boys(0), "0");
        x.image(0);
        x.give(5, 0);
        due.is("image(0)", x.image(0), 1);
        x.night();
        x.from(0);
        due.is("cells", Due.cells(x), "0....0......");
    }

    static void promise31NothingElseIsChanged(Due due) {
        DarkShares x = Due.given(Due.boys(0, 3), "01");
        due.changesNothing("image(0)", 1, x, () -> x.image(0));
    }

    static void promise31WhatComesLaterLeavesIt(Due due) {
        DarkShares x = Due.told("night;boy 3 4 25;boy 1 2 3;cells 0 5;");
        x.give(7, 1);
        x.note(1, 2, 3, 1);
        x.image(0);
        String kept = Due.seen(x);
        x.sell(5, 1, 2);
        x.swap(5, 7);
        x.undo();
        x.undo();
        x.undo();
        x.forget();
        x.note(0, 9, 9, 0);
        x.boy(0, 0, 0);
        x.from(0);
        due.is("seen", Due.seen(x), kept);
    }

    // ---- 32, from

    static void promise32NumberTooSmall(Due due) {
        DarkShares x = Due.given(Due.boys(0), "0");
        x.image(0);
        due.refused("from(-1)", Due.BAD, x, () -> x.from(-1));
    }

    static void promise32NumberTooLarge(Due due) {
        DarkShares x = Due.given(Due.boys(0), "0");
        x.image(0);
        due.refused("from(2)", Due.BAD, x, () -> x.from(2));
    }

    static void promise32NoneWasKept(Due due) {
        DarkShares x = Due.given(Due.boys(0), "0");
        due.refused("from(0)", Due.NO, x, () -> x.from(0));
        DarkShares y = Due.given(Due.boys(0), "0");
        y.image(0);
        long ahead = y.digest();
        due.is("from(1)", y.from(1), Due.NO);
        due.is("status(1)", y.status(1), 1);
        due.is("digest()", y.digest(), ahead);
    }

    static void promise32AgainAndAgain(Due due) {
        DarkShares x = Due.given(Due.boys(0), "0");
        x.image(0);
        for (int n = 0; n < 3; n++) {
            x.undo();
            x.boy(0, 0, 0);
            due.is("from(0)", x.from(0), 1);
            due.is("boys", x.count(0), 1);
            due.is("cells", Due.cells(x), "0...........");
        }
    }

    static void promise32AllBoysAndCells(Due due) {
        DarkShares x = Due.told("night;boy 0 1 2;boy 1 3 4;boy 2 5 6;boy 3 7 8;boy 4 9 40;cells 4 0 11;");
        x.image(0);
        x.night();
        x.boy(5, 12, 1);
        x.from(0);
        due.is("boys", x.count(0), 5);
        for (int b = 0; b < 5; b++) {
            due.is("kind of " + b, x.of(b, 0), b);
            due.is("need of " + b, x.of(b, 1), 2 * b + 1);
            due.is("jam of " + b, x.of(b, 2), b == 4 ? 40 : 2 * b + 2);
        }
        due.is("cells", Due.cells(x), "4..........4");
    }

    static void promise32SixNotes(Due due) {
        DarkShares x = Due.boys(0, 0);
        for (int n = 0; n < 6; n++) x.note(n % 2, n, 3, 0);
        long ahead = x.digest();
        x.image(0);
        x.forget();
        for (int n = 0; n < 6; n++) x.note((n + 1) % 2, 11 - n, 20, 1);
        x.from(0);
        due.is("digest()", x.digest(), ahead);
        due.is("note(0, 0, 0, 0)", x.note(0, 0, 0, 0), Due.FULL);
        due.is("is(1)", x.is(1), Due.bits(0, 3));
    }

    static void promise32EightMayBeUndone(Due due) {
        DarkShares x = Due.told("night;boy 0 0 40;");
        for (int j = 0; j < 9; j++) x.sell(j, 0, 1);
        x.image(0);
        for (int n = 0; n < 8; n++) x.undo();
        // Eight others, so that none of those of the image is left by chance.
        for (int j = 11; j > 3; j--) x.give(j, 0);
        x.from(0);
        due.is("count(5)", x.count(5), 8);
        for (int n = 1; n <= 8; n++) {
            due.is("undo " + n, x.undo(), 3 + n);
            due.is("jam then", x.of(0, 2), 31 + n);
        }
        due.is("the ninth", x.undo(), Due.NO);
    }

    static void promise32NothingMayBeUndoneFromOneWithNone(Due due) {
        DarkShares x = Due.boys(0);
        x.image(0);
        x.give(0, 0);
        x.from(0);
        due.is("count(5)", x.count(5), 0);
        due.is("undo()", x.undo(), Due.NO);
    }

    static void promise32ItIsNotUndone(Due due) {
        DarkShares x = Due.given(Due.boys(0), "0");
        x.image(0);
        x.give(1, 0);
        x.from(0);
        due.is("count(5)", x.count(5), 1);
        due.is("undo()", x.undo(), 12);
    }

    static void promise32TheOtherImageStays(Due due) {
        DarkShares x = Due.given(Due.boys(0), "0");
        x.image(1);
        x.night();
        x.image(0);
        x.from(0);
        due.is("from(1)", x.from(1), 1);
        due.is("cells", Due.cells(x), "0...........");
    }

    static void promise32TheTextStays(Due due) {
        DarkShares x = new DarkShares();
        Due.typed(x, "night;");
        x.image(0);
        Due.typed(x, "night;boy 0 0 0;");
        x.from(0);
        due.is("count(6)", x.count(6), 16);
        due.is("read()", x.read(), 2);
    }

    static void promise32TheFractionStays(Due due) {
        DarkShares x = Due.given(Due.boys(0), "....0");
        x.image(0);
        x.owls(0, 5);
        x.from(0);
        due.is("part(0)", x.part(0), 3);
        due.is("part(1)", x.part(1), 2);
    }

    static void promise32StatusStays(Due due) {
        DarkShares x = Due.boys(0, 0, 0, 0, 0);
        x.image(0);
        x.boy(0, 0, 0);
        x.undo();
        x.whose(12);
        x.from(0);
        for (int what = 0; what < 3; what++) due.is("status(" + what + ")", x.status(what), 1);
    }

    // ---- 33, status

    static void promise33WhatTooSmall(Due due) {
        DarkShares x = Due.given(Due.boys(0), "0");
        due.refused("status(-1)", -1, x, () -> x.status(-1));
        due.refused("status(least)", -1, x, () -> x.status(Integer.MIN_VALUE));
    }

    static void promise33WhatTooLarge(Due due) {
        DarkShares x = Due.given(Due.boys(0), "0");
        due.refused("status(3)", -1, x, () -> x.status(3));
    }

    static void promise33AskingChangesNothing(Due due) {
        DarkShares x = Due.given(Due.boys(0), "0");
        x.whose(12);
        for (int n = 0; n < 3; n++) {
            due.is("status(0)", x.status(0), 1);
            due.is("status(1)", x.status(1), 0);
            due.is("status(2)", x.status(2), 0);
        }
    }

    static void promise33EachByItsReason(Due due) {
        DarkShares x = new DarkShares();
        for (int n = 0; n < 7; n++) x.boy(0, 0, 0);
        for (int n = 0; n < 3; n++) x.undo();
        for (int n = 0; n < 4; n++) x.boy(6, 0, 0);
        due.is("status(0)", x.status(0), 4);
        due.is("status(1)", x.status(1), 3);
        due.is("status(2)", x.status(2), 2);
    }

    static void promise33BadToldByAnotherNumberCounts(Due due) {
        DarkShares x = new DarkShares();
        x.give(12, 0);
        x.whose(12);
        x.pieces(-2);
        x.swaps(-2);
        due.is("status(0)", x.status(0), 4);
    }

    static void promise33AnswersThatAreNotRefusedDoNotCount(Due due) {
        DarkShares x = Due.boys(3, 3);
        x.pieces(-1);
        x.pieces(7);
        x.swaps(7);
        x.whose(0);
        x.sale(0, 1);
        x.longest(0);
        x.note(0, 0, 20, 0);
        x.asks(0);
        x.read();
        x.took(0, 1);
        for (int what = 0; what < 3; what++) due.is("status(" + what + ")", x.status(what), 0);
    }

    static void promise33AsManyCallsAsThereMayBe(Due due) {
        DarkShares x = new DarkShares();
        for (int n = 0; n < 511; n++) x.whose(12);
        due.is("status(0)", x.status(0), 511);
    }

    // ---- 34, count

    static void promise34WhatTooSmall(Due due) {
        DarkShares x = Due.given(Due.boys(0), "0");
        due.refused("count(-1)", Due.BAD, x, () -> x.count(-1));
    }

    static void promise34WhatTooLarge(Due due) {
        DarkShares x = Due.given(Due.boys(0), "0");
        due.refused("count(7)", Due.BAD, x, () -> x.count(7));
    }

    private static void counts(Due due, DarkShares x, int... dues) {
        for (int what = 0; what < 7; what++) due.is("count(" + what + ")", x.count(what), dues[what]);
    }

    static void promise34OfANewOne(Due due) {
        counts(due, new DarkShares(), 0, 12, 0, 0, 0, 0, 0);
    }

    static void promise34OfSome(Due due) {
        DarkShares x = Due.told("night;boy 0 1 20;boy 0 2 22;boy 0 0 1;cells 0 3 4;cells 1 5;");
        x.give(6, 2);
        x.give(7, 2);
        x.note(0, 0, 0, 0);
        counts(due, x, 3, 7, 43, 2, 1, 2, 60);
    }

    static void promise34TheMostOfEach(Due due) {
        DarkShares x = new DarkShares();
        for (int b = 0; b < 5; b++) x.boy(b, 2, 40);
        Due.given(x, "001122334401");
        for (int n = 0; n < 6; n++) x.note(4, 11, 20, 1);
        for (int n = 0; n < 150; n++) x.type(127);
        counts(due, x, 5, 0, 200, 5, 6, 8, 150);
    }

    static void promise34NothingIsChanged(Due due) {
        DarkShares x = Due.given(Due.boys(0), "0");
        int[] dues = {1, 11, 0, 1, 0, 1, 0};
        for (int what = 0; what < 7; what++) {
            int asked = what;
            due.changesNothing("count(" + what + ")", dues[what], x, () -> x.count(asked));
        }
    }

    // ---- 35, digest

    private static long mixed(long... values) {
        long h = 1193;
        for (long v : values) h = 31 * h + v;
        return h;
    }

    static void promise35OfANewOne(Due due) {
        due.is("digest()", new DarkShares().digest(), mixed(
            0, 12, 0, 0, 0, 0, 0,
            -1, -1, -1, -1, -1, -1, -1, -1, -1, -1, -1, -1,
            0, 1));
    }

    static void promise35EachInItsPlace(Due due) {
        DarkShares x = new DarkShares();
        x.boy(3, 1, 25);
        x.boy(2, 2, 7);
        x.give(5, 1);
        x.give(11, 0);
        x.sell(4, 1, 3);
        x.note(1, 5, 6, 0);
        x.note(0, 11, 4, 1);
        x.owls(1, 4);
        x.type('n');
        due.is("digest()", x.digest(), mixed(
            2, 9, 29, 2, 2, 3, 1,
            3, 1, 25, 2, 2, 4,
            -1, -1, -1, -1, 1, 1, -1, -1, -1, -1, -1, 0,
            1, 5, 6, 0, 0, 11, 4, 1,
            36, 5));
    }

    static void promise35TheMostOfEach(Due due) {
        DarkShares x = new DarkShares();
        for (int b = 0; b < 5; b++) x.boy(b + 1, 12, 40);
        Due.given(x, "444444444444");
        for (int n = 0; n < 6; n++) x.note(4, 11, 20, 1);
        for (int n = 0; n < 150; n++) x.type(127);
        x.owls(4, 9);
        due.is("digest()", x.digest(), mixed(
            5, 0, 200, 1, 6, 8, 150,
            1, 12, 40, 2, 12, 40, 3, 12, 40, 4, 12, 40, 5, 12, 40,
            4, 4, 4, 4, 4, 4, 4, 4, 4, 4, 4, 4,
            4, 11, 20, 1, 4, 11, 20, 1, 4, 11, 20, 1, 4, 11, 20, 1, 4, 11, 20, 1, 4, 11, 20, 1,
            173, 5));
    }

    static void promise35BoysAndNotesThatAreNoMoreAreNoPart(Due due) {
        DarkShares x = Due.given(Due.boys(1, 2, 3, 4, 5), "012340123401");
        for (int n = 0; n < 6; n++) x.note(4, 11, 20, 1);
        x.night();
        due.is("digest() behind night", x.digest(), new DarkShares().digest());
        x.boy(0, 0, 0);
        x.note(0, 1, 2, 0);
        x.forget();
        due.is("digest() behind forget", x.digest(), Due.boys(0).digest());
    }

    static void promise35StatusAndImagesAreNoPart(Due due) {
        DarkShares x = Due.given(Due.boys(0), "0");
        long ahead = x.digest();
        x.whose(12);
        x.swap(0, 1);
        x.image(0);
        x.image(1);
        due.is("digest()", x.digest(), ahead);
    }

    static void promise35NothingIsChanged(Due due) {
        DarkShares x = Due.given(Due.boys(0), "0");
        due.changesNothing("digest()", x.digest(), x, x::digest);
    }
}
