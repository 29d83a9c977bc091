/** Promises 14 to 17: enough, envy, fair, pieces. */
public final class FairTest {
    public static void main(String[] args) throws Exception {
        Due.runAll(FairTest.class);
    }

    private static DarkShares needs(int... needs) {
        DarkShares x = new DarkShares();
        for (int need : needs) x.boy(0, need, 0);
        return x;
    }

    // ---- 14, enough

    static void promise14NoBoys(Due due) {
        due.is("enough()", new DarkShares().enough(), 0);
    }

    static void promise14AsMany(Due due) {
        due.is("enough()", Due.given(needs(2, 2), "01.01").enough(), Due.bits(0, 1));
    }

    static void promise14OneFewer(Due due) {
        due.is("enough()", Due.given(needs(2, 2), "0..1..1").enough(), Due.bits(1));
    }

    static void promise14More(Due due) {
        due.is("enough()", Due.given(needs(2, 2), "000").enough(), Due.bits(0));
    }

    static void promise14NeedOfNoneHasEnoughWithNone(Due due) {
        due.is("enough()", needs(0, 1, 0).enough(), Due.bits(0, 2));
    }

    static void promise14NeedOfTwelve(Due due) {
        DarkShares x = Due.given(needs(12), "000000000000");
        due.is("all twelve", x.enough(), 1);
        x.give(11, -1);
        due.is("eleven", x.enough(), 0);
    }

    static void promise14TheFifthBoysBit(Due due) {
        due.is("enough()", Due.given(needs(1, 1, 1, 1, 1), "4").enough(), Due.bits(4));
        due.is("all five", Due.given(needs(1, 1, 1, 1, 1), "01234").enough(), 31);
    }

    static void promise14ByHowManyNotByWorth(Due due) {
        DarkShares x = new DarkShares();
        x.boy(4, 2, 0);
        due.is("cells that are nothing to him", Due.given(x, "....00").enough(), 1);
    }

    static void promise14NothingIsChanged(Due due) {
        DarkShares x = Due.given(needs(1, 2), "01");
        due.changesNothing("enough()", 1, x, x::enough);
    }

    // ---- 15, envy

    static void promise15BoyTooSmall(Due due) {
        DarkShares x = Due.given(Due.boys(0, 0), "011");
        due.refused("envy(-1)", Due.BAD, x, () -> x.envy(-1));
    }

    static void promise15BoyNotThere(Due due) {
        DarkShares x = Due.given(Due.boys(0, 0), "011");
        due.refused("envy(2)", Due.BAD, x, () -> x.envy(2));
        DarkShares y = new DarkShares();
        due.refused("envy(0)", Due.BAD, y, () -> y.envy(0));
    }

    static void promise15AsMuchIsNotMore(Due due) {
        DarkShares x = Due.given(Due.boys(0, 0), "01.01");
        due.is("envy(0)", x.envy(0), 0);
        due.is("envy(1)", x.envy(1), 0);
    }

    static void promise15OneMore(Due due) {
        // To a saver the first two cells are 6, the last one is 5.
        DarkShares x = Due.given(Due.boys(5, 0), "00.........1");
        due.is("5 is less than 6", x.envy(0), 0);
        DarkShares y = Due.given(Due.boys(5, 0), "11.........0");
        due.is("6 is more than 5", y.envy(0), Due.bits(1));
    }

    static void promise15HimselfNever(Due due) {
        DarkShares x = Due.given(Due.boys(3), "000000");
        due.is("envy(0)", x.envy(0), 0);
    }

    static void promise15NobodyWhoHasNone(Due due) {
        DarkShares x = Due.boys(0, 1, 2, 3, 4);
        for (int b = 0; b < 5; b++) due.is("envy(" + b + ")", x.envy(b), 0);
    }

    static void promise15OneWhoHasNoneAllWhoHave(Due due) {
        DarkShares x = Due.given(Due.boys(0, 0, 0, 0, 0), "1.3.4");
        due.is("envy(0)", x.envy(0), Due.bits(1, 3, 4));
        due.is("envy(2)", x.envy(2), Due.bits(1, 3, 4));
    }

    static void promise15TheFirstAndTheFifth(Due due) {
        DarkShares x = Due.given(Due.boys(0, 0, 0, 0, 0), "00.444.1");
        due.is("envy(1)", x.envy(1), Due.bits(0, 4));
        due.is("envy(4)", x.envy(4), 0);
        due.is("envy(0)", x.envy(0), Due.bits(4));
    }

    static void promise15ByHisOwnKind(Due due) {
        DarkShares x = Due.given(Due.boys(4, 2, 0), "2...1111....");
        due.is("of the one who is afraid", x.envy(0), Due.bits(2));
        due.is("of the prefect", x.envy(1), 0);
        due.is("of the plain one", x.envy(2), Due.bits(1));
    }

    static void promise15AheadIsByTheOthersCells(Due due) {
        DarkShares x = Due.given(Due.boys(3, 0), "0.0.11");
        due.is("two beside one another", x.envy(0), Due.bits(1));
    }

    static void promise15GreyIsNobodys(Due due) {
        DarkShares x = Due.given(Due.boys(0, 0), "0");
        due.is("envy(0)", x.envy(0), 0);
    }

    static void promise15NothingIsChanged(Due due) {
        DarkShares x = Due.given(Due.boys(0, 0), "011");
        due.changesNothing("envy(0)", 2, x, () -> x.envy(0));
    }

    // ---- 16, fair

    static void promise16BoyTooSmall(Due due) {
        DarkShares x = Due.given(Due.boys(0, 0), "011");
        due.refused("fair(-1)", Due.BAD, x, () -> x.fair(-1));
    }

    static void promise16BoyNotThere(Due due) {
        DarkShares x = Due.given(Due.boys(0, 0), "011");
        due.refused("fair(2)", Due.BAD, x, () -> x.fair(2));
        DarkShares y = new DarkShares();
        due.refused("fair(0)", Due.BAD, y, () -> y.fair(0));
    }

    static void promise16NoLess(Due due) {
        DarkShares x = Due.given(Due.boys(0, 2), "0000111100..");
        due.is("18 times 2 is 36", x.fair(0), 1);
        due.is("24 times 2 is 48", x.fair(1), 1);
    }

    static void promise16Less(Due due) {
        DarkShares x = Due.given(Due.boys(0, 2), "00001110.0..");
        due.is("18 times 2 is 36", x.fair(0), 1);
        due.is("18 times 2 is less than 48", x.fair(1), 0);
        x.give(0, -1);
        due.is("15 times 2 is less than 36", x.fair(0), 0);
    }

    static void promise16LessByOne(Due due) {
        // All twelve are 49 to a saver.
        DarkShares x = Due.given(Due.boys(5, 0), "00000.0.0.0.");
        due.is("2, four times 4, three times 2", x.of(0, 4), 24);
        due.is("48 is one less", x.fair(0), 0);
        DarkShares y = Due.given(Due.boys(5, 0), "0000.0.0.0.0");
        due.is("2, three times 4, three times 2, 5", y.of(0, 4), 25);
        due.is("50 is one more", y.fair(0), 1);
    }

    static void promise16OneBoyAlone(Due due) {
        for (int kind = 0; kind < 6; kind++) {
            DarkShares x = Due.given(Due.boys(kind), "000000000000");
            due.is("all twelve of kind " + kind, x.fair(0), 1);
            x.give(11, -1);
            due.is("eleven of kind " + kind, x.fair(0), 0);
        }
    }

    static void promise16ByHowManyBoysThereAre(Due due) {
        DarkShares x = Due.given(Due.boys(0, 0), "000");
        due.is("of two", x.fair(0), 0);
        x.boy(0, 0, 0);
        due.is("of three", x.fair(0), 0);
        x.boy(0, 0, 0);
        due.is("9 times 4 is 36", x.fair(0), 1);
        x.boy(0, 0, 0);
        due.is("of five", x.fair(0), 1);
    }

    static void promise16OneWithoutCells(Due due) {
        DarkShares x = Due.boys(0, 1, 2, 3, 4);
        for (int b = 0; b < 5; b++) due.is("fair(" + b + ")", x.fair(b), 0);
    }

    static void promise16NothingIsChanged(Due due) {
        DarkShares x = Due.given(Due.boys(0, 0), "011111");
        due.changesNothing("fair(0)", 0, x, () -> x.fair(0));
    }

    // ---- 17, pieces

    /** How many cells, each boy of the order, and that there are no more. */
    private static void pieces(Due due, DarkShares x, int cells, int... order) {
        due.is("pieces(-1)", x.pieces(-1), cells);
        for (int i = 0; i < order.length; i++) due.is("pieces(" + i + ")", x.pieces(i), order[i]);
        due.is("pieces(" + order.length + ")", x.pieces(order.length), Due.NOT_SO_MANY);
    }

    static void promise17NumberTooSmall(Due due) {
        DarkShares x = Due.given(Due.boys(0, 0), "011");
        due.refused("pieces(-2)", Due.OTHER_BAD, x, () -> x.pieces(-2));
        due.refused("pieces(least)", Due.OTHER_BAD, x, () -> x.pieces(Integer.MIN_VALUE));
    }

    static void promise17NumberTooSmallWhereNoOrderDoes(Due due) {
        DarkShares x = Due.boys(3, 3);
        due.refused("pieces(-2)", Due.OTHER_BAD, x, () -> x.pieces(-2));
    }

    static void promise17NoBoysTakeNone(Due due) {
        pieces(due, new DarkShares(), 0);
    }

    static void promise17OneBoyTakesAll(Due due) {
        for (int kind = 0; kind < 6; kind++) pieces(due, Due.boys(kind), 12, 0);
    }

    static void promise17NotSoMany(Due due) {
        DarkShares x = Due.boys(4, 0);
        due.changesNothing("pieces(2)", Due.NOT_SO_MANY, x, () -> x.pieces(2));
        due.changesNothing("pieces(most)", Due.NOT_SO_MANY, x, () -> x.pieces(Integer.MAX_VALUE));
    }

    static void promise17FivesLast(Due due) {
        pieces(due, Due.boys(1, 2, 3, 4, 5), 12, 0, 2, 1, 4, 3);
    }

    static void promise17TwelveDo(Due due) {
        pieces(due, Due.boys(0, 0), 12, 0, 1);
        pieces(due, Due.boys(0, 0, 0), 12, 0, 1, 2);
        pieces(due, Due.boys(0, 0, 0, 0), 12, 0, 1, 2, 3);
    }

    static void promise17ThirteenDoNot(Due due) {
        // A sleeper takes 7 (33 of 58), a plain one 6.
        DarkShares x = Due.boys(3, 0);
        for (int i = -1; i < 5; i++) due.is("pieces(" + i + ")", x.pieces(i), Due.NONE);
    }

    static void promise17NoneIsAheadOfNotSoMany(Due due) {
        DarkShares x = Due.boys(3, 3);
        due.changesNothing("pieces(2)", Due.NONE, x, () -> x.pieces(2));
        due.changesNothing("pieces(most)", Due.NONE, x, () -> x.pieces(Integer.MAX_VALUE));
    }

    static void promise17NoneOfFive(Due due) {
        // Five plain ones take 3 each (9 of 36, 7 and a fifth would do).
        DarkShares x = Due.boys(0, 0, 0, 0, 0);
        for (int i = -1; i < 6; i++) due.is("pieces(" + i + ")", x.pieces(i), Due.NONE);
    }

    static void promise17TheFewest(Due due) {
        // One who is afraid takes 3 at first (15 of 30); behind a plain one's 6 the rest is but 12 to him.
        pieces(due, Due.boys(0, 4), 9, 1, 0);
        pieces(due, Due.boys(4, 0), 9, 0, 1);
        // A small one takes 5 (21 of 42), behind which a prefect takes 5 (24 of 48: 6, 6, 6, 3, 3).
        pieces(due, Due.boys(2, 1), 10, 1, 0);
    }

    static void promise17AnOrderThatTakesMoreIsNone(Due due) {
        // By the orders, rising: 11, 12, none, none, none, 12.
        pieces(due, Due.boys(1, 2, 0), 11, 0, 1, 2);
        // None, 12, 10, 10, 12, none.
        pieces(due, Due.boys(0, 4, 0), 10, 1, 0, 2);
        // 12, none, none, none, 10, 11.
        pieces(due, Due.boys(1, 0, 4), 10, 2, 0, 1);
    }

    static void promise17OfLikeOrdersTheFirst(Due due) {
        pieces(due, Due.boys(0, 0, 0), 12, 0, 1, 2);
        // One who is afraid takes 2, the plain one 4, the other who is afraid 6 to 11: either of both may be first.
        pieces(due, Due.boys(0, 4, 4), 12, 1, 0, 2);
    }

    static void promise17AnOrderThatDoesNotDoLeavesOneThatDoes(Due due) {
        // The sleeper takes 5 of three's (23 of 58), the plain one 4, the one who is afraid 2 at first alone.
        pieces(due, Due.boys(3, 0, 4), 11, 2, 0, 1);
    }

    static void promise17WhatTheyHaveDoesNotCount(Due due) {
        pieces(due, Due.given(Due.boys(0, 4), "000000000000"), 9, 1, 0);
        DarkShares x = Due.given(Due.boys(3, 3), "01");
        due.is("pieces(-1)", x.pieces(-1), Due.NONE);
    }

    static void promise17AgainBehindAnotherNight(Due due) {
        DarkShares x = Due.boys(3, 3);
        due.is("no order does", x.pieces(0), Due.NONE);
        x.boy(0, 0, 0);
        x.night();
        x.boy(4, 0, 0);
        x.boy(0, 0, 0);
        pieces(due, x, 9, 0, 1);
    }

    static void promise17NothingIsChanged(Due due) {
        DarkShares x = Due.given(Due.boys(0, 4), "01");
        due.changesNothing("pieces(0)", 1, x, () -> x.pieces(0));
        due.changesNothing("pieces(-1)", 9, x, () -> x.pieces(-1));
    }
}
