/** Promises 23 to 27: note, forget, is, asks, took. */
public final class SaidTest {
    private static final int ALL_KINDS = 63;

    public static void main(String[] args) throws Exception {
        Due.runAll(SaidTest.class);
    }

    /** The second of two boys has said what each row tells: cell, worth, ahead. */
    private static DarkShares said(int[]... rows) {
        DarkShares x = Due.boys(0, 0);
        for (int[] row : rows) x.note(1, row[0], row[1], row[2]);
        return x;
    }

    private static int[] row(int j, int v, int ahead) {
        return new int[] {j, v, ahead};
    }

    private static DarkShares six() {
        return said(row(0, 1, 0), row(1, 2, 1), row(2, 3, 0), row(3, 4, 1), row(4, 5, 0), row(5, 6, 1));
    }

    // ---- 23, note

    static void promise23BoyTooSmall(Due due) {
        DarkShares x = said(row(0, 0, 0));
        due.refused("note(-1, 0, 0, 0)", Due.BAD, x, () -> x.note(-1, 0, 0, 0));
    }

    static void promise23BoyNotThere(Due due) {
        DarkShares x = said(row(0, 0, 0));
        due.refused("note(2, 0, 0, 0)", Due.BAD, x, () -> x.note(2, 0, 0, 0));
        DarkShares y = new DarkShares();
        due.refused("note(0, 0, 0, 0)", Due.BAD, y, () -> y.note(0, 0, 0, 0));
    }

    static void promise23CellTooSmall(Due due) {
        DarkShares x = said(row(0, 0, 0));
        due.refused("note(0, -1, 0, 0)", Due.BAD, x, () -> x.note(0, -1, 0, 0));
    }

    static void promise23CellTooLarge(Due due) {
        DarkShares x = said(row(0, 0, 0));
        due.refused("note(0, 12, 0, 0)", Due.BAD, x, () -> x.note(0, 12, 0, 0));
    }

    static void promise23WorthTooSmall(Due due) {
        DarkShares x = said(row(0, 0, 0));
        due.refused("note(0, 0, -1, 0)", Due.BAD, x, () -> x.note(0, 0, -1, 0));
    }

    static void promise23WorthTooLarge(Due due) {
        DarkShares x = said(row(0, 0, 0));
        due.refused("note(0, 0, 21, 0)", Due.BAD, x, () -> x.note(0, 0, 21, 0));
    }

    static void promise23AheadTooSmall(Due due) {
        DarkShares x = said(row(0, 0, 0));
        due.refused("note(0, 0, 0, -1)", Due.BAD, x, () -> x.note(0, 0, 0, -1));
    }

    static void promise23AheadTooLarge(Due due) {
        DarkShares x = said(row(0, 0, 0));
        due.refused("note(0, 0, 0, 2)", Due.BAD, x, () -> x.note(0, 0, 0, 2));
    }

    static void promise23LeastAndMost(Due due) {
        DarkShares x = Due.boys(0, 0, 0, 0, 0);
        due.is("note(0, 0, 0, 0)", x.note(0, 0, 0, 0), 1);
        due.is("note(4, 11, 20, 1)", x.note(4, 11, 20, 1), 2);
    }

    static void promise23SixAreThere(Due due) {
        DarkShares x = Due.boys(0, 0);
        for (int n = 1; n <= 6; n++) due.is("note " + n, x.note(n % 2, 2 * n - 1, 3 * n, n % 2), n);
        due.is("count(4)", x.count(4), 6);
    }

    static void promise23TheSeventhIsFull(Due due) {
        DarkShares x = six();
        due.refused("note(0, 0, 0, 0)", Due.FULL, x, () -> x.note(0, 0, 0, 0));
    }

    static void promise23BadAheadOfFull(Due due) {
        DarkShares x = six();
        due.refused("note(2, 0, 0, 0)", Due.BAD, x, () -> x.note(2, 0, 0, 0));
        due.refused("note(0, 12, 0, 0)", Due.BAD, x, () -> x.note(0, 12, 0, 0));
        due.refused("note(0, 0, 21, 0)", Due.BAD, x, () -> x.note(0, 0, 21, 0));
        due.refused("note(0, 0, 0, 2)", Due.BAD, x, () -> x.note(0, 0, 0, 2));
    }

    static void promise23TheSameAgain(Due due) {
        DarkShares x = said(row(0, 3, 0));
        due.is("note(1, 0, 3, 0)", x.note(1, 0, 3, 0), 2);
    }

    static void promise23WhatMayBeUndoneStays(Due due) {
        DarkShares x = Due.given(Due.boys(0), "0");
        x.note(0, 0, 0, 0);
        due.is("count(5)", x.count(5), 1);
        due.is("undo()", x.undo(), 12);
    }

    // ---- 24, forget

    static void promise24OfNone(Due due) {
        due.is("forget()", new DarkShares().forget(), 0);
        due.is("forget() with boys", Due.boys(0).forget(), 0);
    }

    static void promise24OfSix(Due due) {
        DarkShares x = six();
        due.is("forget()", x.forget(), 6);
        due.is("count(4)", x.count(4), 0);
        due.is("forget() again", x.forget(), 0);
    }

    static void promise24OfAllBoys(Due due) {
        DarkShares x = Due.boys(0, 0);
        x.note(0, 0, 20, 0);
        x.note(1, 0, 20, 0);
        due.is("forget()", x.forget(), 2);
        due.is("is(0)", x.is(0), ALL_KINDS);
        due.is("is(1)", x.is(1), ALL_KINDS);
    }

    static void promise24NotesBeginAgain(Due due) {
        DarkShares x = six();
        x.forget();
        due.is("note(1, 0, 5, 0)", x.note(1, 0, 5, 0), 1);
        due.is("is(1)", x.is(1), Due.bits(1, 4));
    }

    static void promise24TheRestStays(Due due) {
        DarkShares x = Due.given(Due.boys(0), "0");
        String ahead = Due.seen(x);
        x.note(0, 0, 0, 0);
        x.forget();
        due.is("seen", Due.seen(x), ahead);
    }

    // ---- 25, is

    private static void kinds(Due due, int want, int[]... rows) {
        due.is("is(1)", said(rows).is(1), want);
    }

    static void promise25BoyTooSmall(Due due) {
        DarkShares x = said(row(0, 0, 0));
        due.refused("is(-1)", Due.BAD, x, () -> x.is(-1));
    }

    static void promise25BoyNotThere(Due due) {
        DarkShares x = said(row(0, 0, 0));
        due.refused("is(2)", Due.BAD, x, () -> x.is(2));
        DarkShares y = new DarkShares();
        due.refused("is(0)", Due.BAD, y, () -> y.is(0));
    }

    static void promise25NothingSaid(Due due) {
        kinds(due, ALL_KINDS);
    }

    static void promise25NoKind(Due due) {
        kinds(due, 0, row(0, 20, 0));
        kinds(due, 0, row(0, 4, 0));
    }

    static void promise25AllNotesMustFit(Due due) {
        kinds(due, Due.bits(1, 4), row(1, 5, 0));
        kinds(due, Due.bits(4), row(1, 5, 0), row(5, 0, 1));
        kinds(due, 0, row(1, 5, 0), row(5, 0, 1), row(1, 3, 0));
        kinds(due, 0, row(1, 3, 0), row(5, 0, 1), row(1, 5, 0));
    }

    static void promise25TheSixthNoteCounts(Due due) {
        kinds(due, Due.bits(0, 2), row(0, 3, 1), row(1, 3, 1), row(2, 3, 0), row(3, 3, 0), row(8, 3, 0));
        kinds(due, Due.bits(2), row(0, 3, 1), row(1, 3, 1), row(2, 3, 0), row(3, 3, 0), row(8, 3, 0), row(4, 6, 1));
    }

    static void promise25NotesOfOthersDoNotCount(Due due) {
        DarkShares x = said(row(0, 20, 0));
        due.is("is(0)", x.is(0), ALL_KINDS);
        due.is("is(1)", x.is(1), 0);
    }

    static void promise25OfTheFirstCellAsTold(Due due) {
        kinds(due, Due.bits(3), row(0, 5, 1), row(1, 3, 0));
        kinds(due, Due.bits(5), row(0, 4, 1));
        kinds(due, Due.bits(5), row(0, 2, 0));
        kinds(due, Due.bits(0, 2, 3), row(0, 3, 0));
        kinds(due, Due.bits(0, 2), row(0, 3, 1));
    }

    static void promise25AheadOrNot(Due due) {
        kinds(due, Due.bits(3), row(6, 5, 1));
        kinds(due, 0, row(6, 5, 0));
        kinds(due, Due.bits(5), row(6, 4, 1));
        kinds(due, Due.bits(5), row(6, 2, 0));
    }

    static void promise25WhereSmallOnesEnd(Due due) {
        kinds(due, Due.bits(1, 4), row(2, 5, 0));
        kinds(due, 0, row(3, 5, 0));
    }

    static void promise25WhereTheMiddleBeginsAndEnds(Due due) {
        kinds(due, 0, row(3, 6, 0));
        kinds(due, Due.bits(2), row(4, 6, 0));
        kinds(due, Due.bits(2), row(7, 6, 0));
        kinds(due, 0, row(8, 6, 0));
        kinds(due, 0, row(3, 0, 0));
        kinds(due, Due.bits(4), row(4, 0, 0));
        kinds(due, Due.bits(4), row(7, 0, 0));
        kinds(due, 0, row(8, 0, 0));
    }

    static void promise25TheLastCell(Due due) {
        kinds(due, Due.bits(5), row(11, 5, 0));
        kinds(due, Due.bits(5), row(11, 7, 1));
        kinds(due, Due.bits(3), row(11, 5, 1));
        kinds(due, 0, row(10, 5, 0));
    }

    static void promise25ByWhatHeSaidNotByWhatHeIs(Due due) {
        DarkShares x = Due.given(Due.boys(0), "00");
        x.note(0, 1, 5, 1);
        due.is("is(0)", x.is(0), Due.bits(1, 3, 4));
    }

    static void promise25NothingIsChanged(Due due) {
        DarkShares x = six();
        due.changesNothing("is(1)", 0, x, () -> x.is(1));
        due.changesNothing("is(0)", ALL_KINDS, x, () -> x.is(0));
    }

    // ---- 26, asks

    private static void asks(Due due, int want, int[]... rows) {
        due.is("asks(1)", said(rows).asks(1), want);
    }

    static void promise26BoyTooSmall(Due due) {
        DarkShares x = said(row(0, 0, 0));
        due.refused("asks(-1)", Due.BAD, x, () -> x.asks(-1));
    }

    static void promise26BoyNotThere(Due due) {
        DarkShares x = said(row(0, 0, 0));
        due.refused("asks(2)", Due.BAD, x, () -> x.asks(2));
        DarkShares y = new DarkShares();
        due.refused("asks(0)", Due.BAD, y, () -> y.asks(0));
    }

    static void promise26NoKind(Due due) {
        DarkShares x = said(row(0, 20, 0));
        due.changesNothing("asks(1)", Due.NONE, x, () -> x.asks(1));
    }

    static void promise26OneKind(Due due) {
        asks(due, 0, row(4, 6, 0));
    }

    static void promise26AllKinds(Due due) {
        // Three are alike by cell 0 (3), and by cell 4 (3), too; five are by cell 3.
        asks(due, 0);
    }

    static void promise26TheCellThatParts(Due due) {
        // Plain, prefect, sleeper are left: all alike by the first four cells, two by the next.
        asks(due, 4, row(1, 3, 0));
        // Small, afraid.
        asks(due, 4, row(1, 5, 0));
        // Plain, prefect.
        asks(due, 4, row(0, 3, 1));
        // Plain, small, sleeper: two are alike by cell 0.
        asks(due, 0, row(5, 3, 0));
    }

    static void promise26OfLikeOnesTheFirst(Due due) {
        // Plain, sleeper: no cell parts them, as the one ahead is not his.
        asks(due, 0, row(1, 3, 0), row(4, 3, 0));
    }

    static void promise26NotesOfOthersDoNotCount(Due due) {
        DarkShares x = said(row(0, 20, 0));
        due.is("asks(0)", x.asks(0), 0);
    }

    static void promise26AsIfTheOneAheadWereNotHis(Due due) {
        // Small, sleeper, afraid: 5, 3, 5 by cell 0; were the one ahead his, cell 4 would part them all.
        asks(due, 0, row(1, 5, 1));
    }

    // ---- 27, took

    /** The first has 0, 1; the second 2, 3; the third 4; the fourth none. */
    private static DarkShares four() {
        return Due.given(Due.boys(0, 0, 0, 0), "00112.......");
    }

    static void promise27BoyTooSmall(Due due) {
        DarkShares x = four();
        due.refused("took(-1, 0)", Due.BAD, x, () -> x.took(-1, 0));
    }

    static void promise27BoyNotThere(Due due) {
        DarkShares x = four();
        due.refused("took(4, 0)", Due.BAD, x, () -> x.took(4, 0));
        DarkShares y = new DarkShares();
        due.refused("took(0, 0)", Due.BAD, y, () -> y.took(0, 0));
    }

    static void promise27CellsTooSmall(Due due) {
        DarkShares x = four();
        due.refused("took(0, -1)", Due.BAD, x, () -> x.took(0, -1));
    }

    static void promise27CellsTooLarge(Due due) {
        DarkShares x = four();
        due.refused("took(0, 4096)", Due.BAD, x, () -> x.took(0, 4096));
    }

    static void promise27AllCellsSeen(Due due) {
        due.is("took(0, 4095)", four().took(0, 4095), 0);
        DarkShares x = Due.given(Due.boys(0, 0), "000000011111");
        due.is("took(0, 4095)", x.took(0, 4095), Due.bits(1));
        due.is("took(1, 4095)", x.took(1, 4095), Due.bits(0));
    }

    static void promise27NoneIsNotHis(Due due) {
        due.is("his own alone", four().took(0, Due.bits(0, 1)), Due.bits(1, 2, 3));
        due.is("of one who has none", four().took(3, 0), Due.bits(0, 1, 2));
        due.is("of one who is alone", Due.given(Due.boys(0), "0").took(0, 1), 0);
    }

    static void promise27OneOfHisOwnIsNotAmongThem(Due due) {
        due.is("nor another", four().took(0, Due.bits(0)), 0);
        due.is("but another's", four().took(0, Due.bits(0, 2)), 0);
        due.is("none at all", four().took(0, 0), 0);
    }

    static void promise27FromOneAlone(Due due) {
        due.is("one of his", four().took(0, Due.bits(0, 1, 2)), Due.bits(1));
        due.is("both of his", four().took(0, Due.bits(0, 1, 2, 3)), Due.bits(1));
        due.is("the other's", four().took(0, Due.bits(0, 1, 4)), Due.bits(2));
        due.is("by one who has none", four().took(3, Due.bits(4)), Due.bits(2));
    }

    static void promise27FromTwoIsFromNobodyAlone(Due due) {
        due.is("took(0, ..)", four().took(0, Due.bits(0, 1, 3, 4)), 0);
    }

    static void promise27AGreyOneIsFromNobody(Due due) {
        due.is("a grey one", four().took(0, Due.bits(0, 1, 9)), 0);
        due.is("a grey one, too", four().took(0, Due.bits(0, 1, 2, 11)), 0);
    }

    static void promise27TheFirstAndTheFifth(Due due) {
        DarkShares x = Due.given(Due.boys(0, 0, 0, 0, 0), "0..........4");
        due.is("took(0, ..)", x.took(0, Due.bits(0, 11)), Due.bits(4));
        due.is("took(4, ..)", x.took(4, Due.bits(0, 11)), Due.bits(0));
    }

    static void promise27NothingIsChanged(Due due) {
        DarkShares x = four();
        due.changesNothing("took(0, 7)", 2, x, () -> x.took(0, 7));
    }
}
