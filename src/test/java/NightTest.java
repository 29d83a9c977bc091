/** Promises 1 to 6: a new object, night, boy, give, type, clear. */
public final class NightTest {
    public static void main(String[] args) throws Exception {
        Due.runAll(NightTest.class);
    }

    // ---- 1, a new object

    static void promise01NoBoys(Due due) {
        due.is("count(0)", new DarkShares().count(0), 0);
        due.is("of(0, 0)", new DarkShares().of(0, 0), Due.BAD);
    }

    static void promise01AllCellsAreGrey(Due due) {
        due.is("cells", Due.cells(new DarkShares()), "............");
        due.is("count(1)", new DarkShares().count(1), 12);
    }

    static void promise01NoJamNoNotesNothingToUndo(Due due) {
        DarkShares x = new DarkShares();
        due.is("jam of all", x.count(2), 0);
        due.is("who have enough", x.count(3), 0);
        due.is("notes", x.count(4), 0);
        due.is("that may be undone", x.count(5), 0);
        due.is("undo()", x.undo(), Due.NO);
    }

    static void promise01TheTextIsEmpty(Due due) {
        due.is("count(6)", new DarkShares().count(6), 0);
        due.is("clear()", new DarkShares().clear(), 0);
    }

    static void promise01TheFractionIsNoughtByOne(Due due) {
        due.is("part(0)", new DarkShares().part(0), 0);
        due.is("part(1)", new DarkShares().part(1), 1);
    }

    static void promise01NoImageIsKept(Due due) {
        due.is("from(0)", new DarkShares().from(0), Due.NO);
        due.is("from(1)", new DarkShares().from(1), Due.NO);
    }

    static void promise01NothingWasRefused(Due due) {
        DarkShares x = new DarkShares();
        for (int what = 0; what < 3; what++) due.is("status(" + what + ")", x.status(what), 0);
    }

    static void promise01OneObjectLeavesAnother(Due due) {
        DarkShares x = new DarkShares();
        DarkShares y = new DarkShares();
        y.boy(2, 3, 4);
        y.give(5, 0);
        y.owls(0, 5);
        y.type('n');
        y.image(0);
        y.whose(12);
        due.is("digest()", x.digest(), new DarkShares().digest());
        due.is("from(0)", x.from(0), Due.NO);
        due.is("status(0)", x.status(0), 0);
    }

    // ---- 2, night

    static void promise02WithoutBoys(Due due) {
        DarkShares x = new DarkShares();
        due.is("night()", x.night(), 0);
        due.is("night() again", x.night(), 0);
    }

    static void promise02WithFiveBoys(Due due) {
        DarkShares x = Due.boys(0, 1, 2, 3, 4);
        due.is("night()", x.night(), 5);
        due.is("night() again", x.night(), 0);
    }

    static void promise02AllIsAsAtFirst(Due due) {
        DarkShares x = Due.given(Due.boys(3, 4, 5), "012012012012");
        x.note(2, 11, 20, 1);
        x.sell(0, 1, 0);
        x.night();
        due.is("seen", Due.seen(x), Due.seen(new DarkShares()));
    }

    static void promise02NothingMayBeUndone(Due due) {
        DarkShares x = Due.given(Due.boys(3), "0");
        x.night();
        due.is("undo()", x.undo(), Due.NO);
    }

    static void promise02BoysBeginAgain(Due due) {
        DarkShares x = Due.boys(0, 1, 2, 3, 4);
        x.note(4, 1, 2, 0);
        x.night();
        due.is("boy(5, 1, 2)", x.boy(5, 1, 2), 0);
        due.is("kind", x.of(0, 0), 5);
        due.is("a boy of the night ahead", x.of(1, 0), Due.BAD);
        due.is("note(0, 0, 0, 0)", x.note(0, 0, 0, 0), 1);
    }

    static void promise02ImagesStay(Due due) {
        DarkShares x = Due.given(Due.boys(3, 4), "01");
        x.image(0);
        x.give(2, 1);
        x.image(1);
        x.night();
        due.is("from(0)", x.from(0), 1);
        due.is("its cells", Due.cells(x), "01..........");
        x.night();
        due.is("from(1)", x.from(1), 1);
        due.is("its cells", Due.cells(x), "011.........");
    }

    static void promise02TheTextStays(Due due) {
        DarkShares x = new DarkShares();
        Due.typed(x, "night;boy 1 2 3;");
        x.night();
        due.is("count(6)", x.count(6), 16);
        due.is("read()", x.read(), 2);
        due.is("need", x.of(0, 1), 2);
    }

    static void promise02TheFractionStays(Due due) {
        DarkShares x = Due.given(Due.boys(0), "....0");
        x.owls(0, 5);
        x.night();
        due.is("part(0)", x.part(0), 3);
        due.is("part(1)", x.part(1), 2);
    }

    static void promise02StatusStays(Due due) {
        DarkShares x = Due.boys(0, 0, 0, 0, 0, 0);
        x.undo();
        x.undo();
        x.whose(-1);
        x.whose(12);
        x.of(9, 9);
        x.night();
        due.is("status(0)", x.status(0), 3);
        due.is("status(1)", x.status(1), 2);
        due.is("status(2)", x.status(2), 1);
    }

    // ---- 3, boy

    static void promise03KindTooSmall(Due due) {
        DarkShares x = Due.given(Due.boys(1), "0");
        due.refused("boy(-1, 0, 0)", Due.BAD, x, () -> x.boy(-1, 0, 0));
        due.refused("boy(least, 0, 0)", Due.BAD, x, () -> x.boy(Integer.MIN_VALUE, 0, 0));
    }

    static void promise03KindTooLarge(Due due) {
        DarkShares x = Due.given(Due.boys(1), "0");
        due.refused("boy(6, 0, 0)", Due.BAD, x, () -> x.boy(6, 0, 0));
        due.refused("boy(most, 0, 0)", Due.BAD, x, () -> x.boy(Integer.MAX_VALUE, 0, 0));
    }

    static void promise03KindsNoughtToFive(Due due) {
        for (int kind = 0; kind < 6; kind++) {
            DarkShares x = new DarkShares();
            due.is("boy(" + kind + ", 0, 0)", x.boy(kind, 0, 0), 0);
            due.is("its kind", x.of(0, 0), kind);
        }
    }

    static void promise03NeedTooSmall(Due due) {
        DarkShares x = Due.given(Due.boys(1), "0");
        due.refused("boy(0, -1, 0)", Due.BAD, x, () -> x.boy(0, -1, 0));
    }

    static void promise03NeedTooLarge(Due due) {
        DarkShares x = Due.given(Due.boys(1), "0");
        due.refused("boy(0, 13, 0)", Due.BAD, x, () -> x.boy(0, 13, 0));
    }

    static void promise03NeedNoughtAndTwelve(Due due) {
        DarkShares x = new DarkShares();
        due.is("boy(0, 0, 0)", x.boy(0, 0, 0), 0);
        due.is("boy(0, 12, 0)", x.boy(0, 12, 0), 1);
        due.is("need of the first", x.of(0, 1), 0);
        due.is("need of the second", x.of(1, 1), 12);
    }

    static void promise03JamTooSmall(Due due) {
        DarkShares x = Due.given(Due.boys(1), "0");
        due.refused("boy(0, 0, -1)", Due.BAD, x, () -> x.boy(0, 0, -1));
    }

    static void promise03JamTooLarge(Due due) {
        DarkShares x = Due.given(Due.boys(1), "0");
        due.refused("boy(0, 0, 41)", Due.BAD, x, () -> x.boy(0, 0, 41));
    }

    static void promise03JamNoughtAndForty(Due due) {
        DarkShares x = new DarkShares();
        due.is("boy(0, 0, 0)", x.boy(0, 0, 0), 0);
        due.is("boy(0, 0, 40)", x.boy(0, 0, 40), 1);
        due.is("jam of the first", x.of(0, 2), 0);
        due.is("jam of the second", x.of(1, 2), 40);
    }

    static void promise03FiveAreThere(Due due) {
        DarkShares x = new DarkShares();
        for (int b = 0; b < 5; b++) due.is("boy " + b, x.boy(b, b + 1, b + 2), b);
        for (int b = 0; b < 5; b++) {
            due.is("kind of " + b, x.of(b, 0), b);
            due.is("need of " + b, x.of(b, 1), b + 1);
            due.is("jam of " + b, x.of(b, 2), b + 2);
        }
    }

    static void promise03TheSixthIsFull(Due due) {
        DarkShares x = Due.given(Due.boys(0, 1, 2, 3, 4), "0123");
        due.refused("boy(5, 12, 40)", Due.FULL, x, () -> x.boy(5, 12, 40));
        due.is("count(0)", x.count(0), 5);
    }

    static void promise03BadAheadOfFull(Due due) {
        DarkShares x = Due.boys(0, 1, 2, 3, 4);
        due.refused("boy(6, 0, 0)", Due.BAD, x, () -> x.boy(6, 0, 0));
        due.refused("boy(0, 13, 0)", Due.BAD, x, () -> x.boy(0, 13, 0));
        due.refused("boy(0, 0, 41)", Due.BAD, x, () -> x.boy(0, 0, 41));
    }

    static void promise03HeHasNoCells(Due due) {
        DarkShares x = Due.given(Due.boys(0), "000000000000");
        x.boy(0, 0, 0);
        due.is("of(1, 3)", x.of(1, 3), 0);
        due.is("cells", Due.cells(x), "000000000000");
    }

    static void promise03NothingMayBeUndoneBehindHim(Due due) {
        DarkShares x = Due.given(Due.boys(0), "000");
        x.boy(0, 0, 0);
        due.is("count(5)", x.count(5), 0);
        due.is("undo()", x.undo(), Due.NO);
        due.is("cells", Due.cells(x), "000.........");
    }

    static void promise03OneWhoIsRefusedLeavesWhatMayBeUndone(Due due) {
        DarkShares x = Due.given(Due.boys(0, 0, 0, 0, 0), "0");
        x.boy(0, 0, 0);
        x.boy(6, 0, 0);
        due.is("count(5)", x.count(5), 1);
        due.is("undo()", x.undo(), 12);
    }

    // ---- 4, give

    static void promise04CellTooSmall(Due due) {
        DarkShares x = Due.given(Due.boys(1), "0");
        due.refused("give(-1, 0)", Due.OTHER_BAD, x, () -> x.give(-1, 0));
        due.refused("give(-1, -1)", Due.OTHER_BAD, x, () -> x.give(-1, -1));
    }

    static void promise04CellTooLarge(Due due) {
        DarkShares x = Due.given(Due.boys(1), "0");
        due.refused("give(12, 0)", Due.OTHER_BAD, x, () -> x.give(12, 0));
        due.refused("give(12, -1)", Due.OTHER_BAD, x, () -> x.give(12, -1));
    }

    static void promise04BoyTooSmall(Due due) {
        DarkShares x = Due.given(Due.boys(1), "0");
        due.refused("give(0, -2)", Due.OTHER_BAD, x, () -> x.give(0, -2));
    }

    static void promise04BoyNotThere(Due due) {
        DarkShares x = new DarkShares();
        due.refused("give(0, 0)", Due.OTHER_BAD, x, () -> x.give(0, 0));
        x.boy(0, 0, 0);
        due.is("give(0, 0) when he is there", x.give(0, 0), Due.NONE);
        due.refused("give(0, 1)", Due.OTHER_BAD, x, () -> x.give(0, 1));
    }

    static void promise04SixthBoyIsNever(Due due) {
        DarkShares x = Due.boys(0, 1, 2, 3, 4);
        due.is("give(0, 4)", x.give(0, 4), Due.NONE);
        due.refused("give(0, 5)", Due.OTHER_BAD, x, () -> x.give(0, 5));
    }

    static void promise04FirstAndLastCell(Due due) {
        DarkShares x = Due.boys(0, 0);
        due.is("give(0, 0)", x.give(0, 0), Due.NONE);
        due.is("give(11, 1)", x.give(11, 1), Due.NONE);
        due.is("cells", Due.cells(x), "0..........1");
    }

    static void promise04WhoseItWas(Due due) {
        DarkShares x = Due.boys(0, 0);
        due.is("grey", x.give(5, 1), Due.NONE);
        due.is("another's", x.give(5, 0), 1);
        due.is("his own", x.give(5, 0), 0);
        due.is("cells", Due.cells(x), ".....0......");
    }

    static void promise04NobodysIsGrey(Due due) {
        DarkShares x = Due.given(Due.boys(0, 0), "01");
        due.is("give(1, -1)", x.give(1, -1), 1);
        due.is("give(1, -1) again", x.give(1, -1), Due.NONE);
        due.is("cells", Due.cells(x), "0...........");
    }

    static void promise04GreyWithoutBoys(Due due) {
        DarkShares x = new DarkShares();
        due.is("give(0, -1)", x.give(0, -1), Due.NONE);
        due.is("count(5)", x.count(5), 1);
        due.is("undo()", x.undo(), 12);
    }

    static void promise04EachMayBeUndone(Due due) {
        DarkShares x = Due.boys(0);
        x.give(5, 0);
        x.give(5, 0);
        x.give(5, -1);
        x.give(5, -1);
        due.is("one that changes nothing, too", x.count(5), 4);
    }

    // ---- 5, type

    static void promise05ByteTooSmall(Due due) {
        DarkShares x = Due.told("night;");
        due.refused("type(-1)", Due.BAD, x, () -> x.type(-1));
        due.refused("type(least)", Due.BAD, x, () -> x.type(Integer.MIN_VALUE));
    }

    static void promise05ByteTooLarge(Due due) {
        DarkShares x = Due.told("night;");
        due.refused("type(128)", Due.BAD, x, () -> x.type(128));
        due.refused("type(256 and a blank)", Due.BAD, x, () -> x.type(256 + 32));
    }

    static void promise05LeastAndMostByte(Due due) {
        DarkShares x = new DarkShares();
        due.is("type(0)", x.type(0), 1);
        due.is("type(127)", x.type(127), 2);
        due.is("count(6)", x.count(6), 2);
    }

    static void promise05ItComesBehindTheText(Due due) {
        DarkShares x = new DarkShares();
        Due.typed(x, "night;boy 0 1 2");
        due.is("type(';')", x.type(';'), 16);
        due.is("read()", x.read(), 2);
    }

    static void promise05HundredAndFiftyAreThere(Due due) {
        DarkShares x = new DarkShares();
        for (int n = 1; n <= 150; n++) due.is("type the " + n + "th", x.type(' '), n);
        due.is("count(6)", x.count(6), 150);
    }

    static void promise05OneMoreIsFull(Due due) {
        DarkShares x = new DarkShares();
        for (int n = 1; n <= 150; n++) x.type(' ');
        due.refused("type the 151st", Due.FULL, x, () -> x.type(' '));
    }

    static void promise05BadAheadOfFull(Due due) {
        DarkShares x = new DarkShares();
        for (int n = 1; n <= 150; n++) x.type(' ');
        due.refused("type(128)", Due.BAD, x, () -> x.type(128));
        due.refused("type(-1)", Due.BAD, x, () -> x.type(-1));
    }

    static void promise05TheNightStays(Due due) {
        DarkShares x = Due.given(Due.boys(1), "0");
        Due.typed(x, "night;");
        due.is("boys", x.count(0), 1);
        due.is("that may be undone", x.count(5), 1);
        due.is("cells", Due.cells(x), "0...........");
    }

    // ---- 6, clear

    static void promise06OfAnEmptyText(Due due) {
        DarkShares x = new DarkShares();
        due.is("clear()", x.clear(), 0);
        due.is("clear() again", x.clear(), 0);
    }

    static void promise06OfAFullText(Due due) {
        DarkShares x = new DarkShares();
        for (int n = 1; n <= 150; n++) x.type(' ');
        due.is("clear()", x.clear(), 150);
        due.is("count(6)", x.count(6), 0);
        due.is("type(' ')", x.type(' '), 1);
    }

    static void promise06WhatWasThereIsGone(Due due) {
        DarkShares x = new DarkShares();
        Due.typed(x, "night;");
        due.is("clear()", x.clear(), 6);
        due.is("read()", x.read(), -10);
        x.type('n');
        due.is("read() of one letter", x.read(), -10);
    }

    static void promise06TheRestStays(Due due) {
        DarkShares x = Due.told("night;boy 3 4 5;cells 0 6 7;");
        x.give(3, 0);
        x.clear();
        due.is("boys", x.count(0), 1);
        due.is("that may be undone", x.count(5), 1);
        due.is("cells", Due.cells(x), "...0..00....");
    }
}
