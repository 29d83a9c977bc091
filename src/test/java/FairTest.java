/** Promises 14 to 22: enough, envy, fair, pieces, swaps, steps, sale, longest, together. */
public final class FairTest {
    private static final Due due = new Due();

    public static void main(String[] args) {
        enough();
        envy();
        fair();
        piecesOfFew();
        piecesInTheBestOrder();
        piecesOfNone();
        swaps();
        steps();
        saleToWhom();
        saleByJam();
        saleRefused();
        longest();
        together();
        nothingIsChanged();
        due.end();
    }

    private static void enough() {
        DarkShares x = Due.told("night;boy 0 2 0;boy 0 2 0;boy 0 2 0;boy 0 0 0;boy 0 12 0;cells 0 3 5;cells 1 6;cells 2 7 8 9;");
        due.is("as many, fewer, more, none of none, too few", x.enough(), Due.bits(0, 2, 3));
        due.is("count(3)", x.count(3), 3);
        DarkShares y = Due.told("night;boy 0 12 0;cells 0 0 1 2 3 4 5 6 7 8 9 10 11;");
        due.is("all twelve", y.enough(), 1);
        due.is("no boys", new DarkShares().enough(), 0);
    }

    private static void envy() {
        DarkShares x = Due.told("night;boy 0 0 0;boy 2 0 0;boy 3 0 0;cells 0 4 5;cells 1 0 8;cells 2 9 11;");
        due.is("alike is not more", x.envy(0), 0);
        due.is("the middle is twice as much", x.envy(1), Due.bits(0));
        due.is("two beside one another", x.envy(2), Due.bits(0));
        due.is("envy(-1)", x.envy(-1), Due.BAD);
        due.is("envy(3)", x.envy(3), Due.BAD);
        DarkShares y = Due.told("night;boy 4 0 0;boy 0 0 0;boy 0 0 0;cells 1 4 5 6 7;cells 2 3;");
        due.is("who has none, by his own kind", y.envy(0), Due.bits(2));
    }

    private static void fair() {
        DarkShares x = Due.told("night;boy 0 0 0;boy 2 0 0;cells 0 0 1 2 3 8 9;cells 1 4 5 6;");
        due.is("18 times 2 is 36", x.fair(0), 1);
        due.is("18 times 2 is less than 48", x.fair(1), 0);
        x.give(7, 1);
        due.is("24 times 2 is 48", x.fair(1), 1);
        x.give(9, -1);
        due.is("15 times 2 is less than 36", x.fair(0), 0);
        x.boy(0, 0, 0);
        due.is("24 times 3", x.fair(1), 1);
        due.is("nothing", x.fair(2), 0);
        due.is("fair(-1)", x.fair(-1), Due.BAD);
        due.is("fair(3)", x.fair(3), Due.BAD);
    }

    private static void piecesOfFew() {
        DarkShares x = new DarkShares();
        due.is("no boys", x.pieces(-1), 0);
        due.is("no boys, the first", x.pieces(0), -5);
        due.is("pieces(-2)", x.pieces(-2), -10);
        due.is("BAD", x.status(0), 1);
        x.boy(4, 0, 0);
        due.is("one takes all", x.pieces(-1), 12);
        due.is("he", x.pieces(0), 0);
        due.is("another", x.pieces(1), -5);
        due.is("many more", x.pieces(Integer.MAX_VALUE), -5);
        due.is("-5 is not refused", x.status(0), 1);
    }

    private static void piecesInTheBestOrder() {
        // A plain one takes 6 anywhere; one who is afraid takes 3 at first (15 of 30), and 6 to 11 behind six.
        DarkShares x = Due.told("night;boy 0 0 0;boy 4 0 0;");
        due.is("3 and 6", x.pieces(-1), 9);
        due.is("the one who is afraid goes first", x.pieces(0), 1);
        due.is("then the plain one", x.pieces(1), 0);
        due.is("no third", x.pieces(2), -5);
        // Alike ones: the first order.
        DarkShares y = Due.told("night;boy 0 0 0;boy 0 0 0;boy 0 0 0;boy 0 0 0;");
        due.is("3 each", y.pieces(-1), 12);
        for (int i = 0; i < 4; i++) due.is("the order as they came, " + i, y.pieces(i), i);
        // What they have does not count.
        y.give(0, 3);
        y.give(1, 3);
        due.is("3 each all the same", y.pieces(-1), 12);
        due.is("the first all the same", y.pieces(0), 0);
        // A prefect wants the middle: a plain one ahead of him lets him take 4 (24 of 48).
        DarkShares z = Due.told("night;boy 2 0 0;boy 1 0 0;");
        due.is("5 of a small one (21), 5 more", z.pieces(-1), 10);
        due.is("the small one first", z.pieces(0), 1);
        // An order that does not do, behind one that does.
        DarkShares w = Due.told("night;boy 4 0 0;boy 0 0 0;");
        due.is("3 and 6 again", w.pieces(-1), 9);
        due.is("the one who is afraid again", w.pieces(0), 0);
        DarkShares v = Due.told("night;boy 1 0 0;boy 2 0 0;boy 3 0 0;boy 4 0 0;boy 5 0 0;");
        due.is("five", v.pieces(-1), 12);
        int[] order = {0, 2, 1, 4, 3};
        for (int i = 0; i < 5; i++) due.is("of five, " + i, v.pieces(i), order[i]);
        due.is("no sixth", v.pieces(5), -5);
    }

    private static void piecesOfNone() {
        DarkShares x = Due.told("night;boy 3 0 0;boy 3 0 0;");
        due.is("two sleepers would take 7 each", x.pieces(-1), Due.NONE);
        due.is("nor is there a first", x.pieces(0), Due.NONE);
        due.is("nor a second", x.pieces(1), Due.NONE);
        due.is("nor a third, who is not there", x.pieces(2), Due.NONE);
        due.is("nor the last number", x.pieces(Integer.MAX_VALUE), Due.NONE);
        due.is("BAD all the same", x.pieces(-2), -10);
        due.is("NONE is not refused", x.status(0), 1);
        // A sleeper takes 7, a plain one 6: one more than there are.
        DarkShares y = new DarkShares();
        y.boy(3, 0, 0);
        y.boy(0, 0, 0);
        due.is("7 and 6", y.pieces(-1), Due.NONE);
        due.is("of 7 and 6 no third", y.pieces(2), Due.NONE);
        y.boy(4, 0, 0);
        due.is("with three they take 2, 5 and 4", y.pieces(-1), 11);
        due.is("then a fourth is one too many", y.pieces(3), -5);
    }

    private static void swaps() {
        // 0 is plain, 1 a prefect with a cell at the edge, 2 one who is afraid with one in the middle.
        DarkShares x = Due.told("night;boy 0 0 0;boy 2 0 0;boy 4 0 0;cells 0 3;cells 1 0 9;cells 2 5 6;");
        due.is("how many", x.swaps(-1), 4);
        due.is("0", x.swaps(0), 5);
        due.is("1", x.swaps(1), 6);
        due.is("2", x.swaps(2), 509);
        due.is("3", x.swaps(3), 609);
        due.is("4", x.swaps(4), -5);
        due.is("many more", x.swaps(Integer.MAX_VALUE), -5);
        due.is("swaps(-2)", x.swaps(-2), -10);
        due.is("BAD", x.status(0), 1);
        // One gains, the other has as much: none.
        DarkShares y = Due.told("night;boy 0 0 0;boy 2 0 0;cells 0 5;cells 1 9;");
        due.is("alike to a plain one", y.swaps(-1), 0);
        // By what he has beside it.
        DarkShares z = Due.told("night;boy 3 0 0;boy 3 0 0;cells 0 0 3;cells 1 1 4;");
        due.is("two sleepers put theirs beside one another", z.swaps(-1), 2);
        due.is("0 has 3, 4 then", z.swaps(0), 4);
        due.is("or 0, 1", z.swaps(1), 103);
        DarkShares w = Due.told("night;boy 4 0 0;boy 2 0 0;cells 0 4;cells 1 3;");
        due.is("cells beside one another", w.swaps(-1), 1);
        due.is("3 and 4", w.swaps(0), 304);
    }

    private static void steps() {
        DarkShares x = Due.told("night;boy 0 0 0;boy 2 0 0;boy 4 0 0;cells 0 3;cells 1 0 9;cells 2 5 6;");
        due.is("0 for 5, 6 for 9", x.steps(), 2);
        due.is("nothing is changed", x.whose(5), 2);
        due.is("nothing to undo", x.count(5), 0);
        x.give(0, -1);
        due.is("one of 5, 6 for 9", x.steps(), 1);
        x.give(8, 1);
        due.is("5 for 8, 6 for 9", x.steps(), 2);
        x.give(11, 2);
        x.give(10, 1);
        due.is("11 is worth no less than 10", x.steps(), 2);
        due.is("no boys", new DarkShares().steps(), 0);
    }

    private static void saleToWhom() {
        DarkShares x = Due.told("night;boy 0 0 40;boy 2 0 40;boy 3 0 40;boy 2 0 40;cells 0 5 9;cells 2 3;");
        due.is("the first prefect", x.sale(5, 0), 1);
        due.is("6 less 3", x.sale(5, 1), 3);
        due.is("a grey one beside the sleeper's", x.sale(2, 0), 2);
        due.is("3 and 2 for the one behind it", x.sale(2, 1), 5);
        due.is("a grey one in the middle", x.sale(6, 0), 1);
        due.is("6", x.sale(6, 1), 6);
        due.is("a grey one that is alike to all", x.sale(11, 0), 0);
        due.is("3", x.sale(11, 1), 3);
        due.is("nobody gains more than is lost", x.sale(9, 0), Due.NONE);
        due.is("nor how much", x.sale(9, 1), Due.NONE);
        DarkShares y = Due.told("night;boy 3 0 40;boy 2 0 40;cells 0 4 5 6;");
        due.is("between two of his a cell is worth 7 to him", y.sale(5, 0), Due.NONE);
        due.is("the last one 5", y.sale(6, 1), 1);
    }

    private static void saleByJam() {
        DarkShares x = Due.told("night;boy 0 0 0;boy 2 0 2;boy 2 0 3;cells 0 5;");
        due.is("2 is less than 3", x.sale(5, 0), 2);
        due.is("3 more", x.sale(5, 1), 3);
        x.sell(0, 2, 1);
        due.is("nobody has 3", x.sale(5, 0), Due.NONE);
        due.is("a grey one is for nothing", x.sale(6, 0), 1);
        DarkShares y = Due.told("night;boy 4 0 0;boy 0 0 0;cells 0 6;");
        due.is("his that is nothing to him, for nothing", y.sale(6, 0), 1);
        due.is("3 more for it", y.sale(6, 1), 3);
    }

    private static void saleRefused() {
        DarkShares x = new DarkShares();
        due.is("no boys", x.sale(0, 0), Due.NONE);
        due.is("no boys, how much", x.sale(0, 1), Due.NONE);
        due.is("sale(-1, 0)", x.sale(-1, 0), Due.BAD);
        due.is("sale(12, 0)", x.sale(12, 0), Due.BAD);
        due.is("sale(0, -1)", x.sale(0, -1), Due.BAD);
        due.is("sale(0, 2)", x.sale(0, 2), Due.BAD);
        due.is("status(0)", x.status(0), 4);
    }

    private static void longest() {
        DarkShares x = Due.told("night;boy 0 0 0;boy 0 0 0;cells 0 2 3 7 8;cells 1 4 9 10 11;");
        due.is("from", x.longest(0), 9);
        due.is("length", x.longest(1), 3);
        x.give(11, -1);
        due.is("of like ones the first", x.longest(0), 2);
        due.is("two", x.longest(1), 2);
        due.is("longest(-1)", x.longest(-1), Due.BAD);
        due.is("longest(2)", x.longest(2), Due.BAD);
        x.night();
        due.is("all grey", x.longest(0), Due.NONE);
        due.is("grey is no piece", x.longest(1), 0);
        DarkShares y = Due.told("night;boy 0 0 0;cells 0 0 1 2 3 4 5 6 7 8 9 10 11;");
        due.is("all his, from", y.longest(0), 0);
        due.is("all his, length", y.longest(1), 12);
    }

    private static void together() {
        DarkShares x = Due.told("night;boy 0 0 0;boy 0 0 0;boy 0 0 0;cells 0 0 1 5;cells 1 2 6;cells 2 8 9 10 11;");
        due.is("0, 1, 2", x.together(0, 1), 3);
        due.is("the other way", x.together(1, 0), 3);
        due.is("up to the last", x.together(0, 2), 4);
        due.is("alike", x.together(1, 1), Due.BAD);
        due.is("together(-1, 0)", x.together(-1, 0), Due.BAD);
        due.is("together(0, -1)", x.together(0, -1), Due.BAD);
        due.is("together(3, 0)", x.together(3, 0), Due.BAD);
        due.is("together(0, 3)", x.together(0, 3), Due.BAD);
        DarkShares y = Due.told("night;boy 0 0 0;boy 0 0 0;");
        due.is("they have none", y.together(0, 1), 0);
    }

    private static void nothingIsChanged() {
        DarkShares x = Due.told("night;boy 3 1 9;boy 2 2 20;boy 4 3 5;cells 0 4 6;cells 1 0 9;cells 2 5 7 1;");
        x.give(3, 1);
        long ahead = x.digest();
        x.enough();
        for (int n = -1; n < 5; n++) {
            x.envy(n);
            x.fair(n);
            x.pieces(n);
            x.swaps(n);
            x.sale(n, 0);
            x.sale(n, 1);
            x.longest(n);
            x.together(n, n + 1);
        }
        x.steps();
        due.is("nothing is changed", x.digest(), ahead);
    }
}
