/** Promises 8 to 13: swap, sell, undo, of, worth, whose. */
public final class SwapTest {
    private static final Due due = new Due();

    public static void main(String[] args) {
        swap();
        sell();
        undoOfEach();
        undoEight();
        of();
        worthOfSingleCells();
        worthOfSets();
        whose();
        due.end();
    }

    private static void swap() {
        DarkShares x = Due.told("night;boy 0 0 0;boy 1 0 0;cells 0 0 1;cells 1 5 11;");
        due.is("swap(-1, 0)", x.swap(-1, 0), Due.BAD);
        due.is("swap(0, -1)", x.swap(0, -1), Due.BAD);
        due.is("swap(12, 0)", x.swap(12, 0), Due.BAD);
        due.is("swap(0, 12)", x.swap(0, 12), Due.BAD);
        due.is("alike", x.swap(5, 5), Due.BAD);
        due.is("alike and grey", x.swap(7, 7), Due.BAD);
        due.is("both one's", x.swap(0, 1), Due.NO);
        due.is("the second grey", x.swap(0, 2), Due.NO);
        due.is("the first grey", x.swap(2, 0), Due.NO);
        due.is("both grey", x.swap(2, 3), Due.NO);
        due.is("none may be undone", x.count(5), 0);
        due.is("status(0)", x.status(0), 6);
        due.is("status(1)", x.status(1), 4);
        due.is("swap(11, 0)", x.swap(11, 0), 1);
        due.is("cells 0", x.of(0, 3), Due.bits(1, 11));
        due.is("cells 1", x.of(1, 3), Due.bits(0, 5));
        due.is("back, though one loses", x.swap(0, 11), 1);
        due.is("cells 0 as they were", x.of(0, 3), Due.bits(0, 1));
    }

    private static void sell() {
        DarkShares x = Due.told("night;boy 0 0 10;boy 1 0 40;cells 0 0;");
        due.is("sell(-1, 0, 0)", x.sell(-1, 0, 0), Due.BAD);
        due.is("sell(12, 0, 0)", x.sell(12, 0, 0), Due.BAD);
        due.is("sell(0, -1, 0)", x.sell(0, -1, 0), Due.BAD);
        due.is("sell(0, 2, 0)", x.sell(0, 2, 0), Due.BAD);
        due.is("sell(0, 1, -1)", x.sell(0, 1, -1), Due.BAD);
        due.is("sell(0, 1, 41)", x.sell(0, 1, 41), Due.BAD);
        due.is("it is his", x.sell(0, 0, 0), Due.NO);
        due.is("not so much", x.sell(1, 0, 11), Due.NO);
        due.is("none may be undone", x.count(5), 0);
        due.is("a grey one, for all he has", x.sell(1, 0, 10), 0);
        due.is("nobody has it", x.count(2), 40);
        due.is("his now", x.whose(1), 0);
        due.is("one's own", x.sell(0, 1, 33), 7);
        due.is("its boy has it", x.of(0, 2), 33);
        due.is("the buyer's", x.whose(0), 1);
        due.is("for nothing", x.sell(1, 1, 0), 7);
        due.is("all the jam", x.count(2), 40);
        DarkShares y = Due.told("night;boy 0 0 40;boy 1 0 40;cells 0 0;");
        due.is("sell for 40", y.sell(0, 1, 40), 0);
        due.is("more than forty in one hand", y.of(0, 2), 80);
        due.is("but for 41 none is sold", y.sell(0, 0, 41), Due.BAD);
    }

    private static void undoOfEach() {
        DarkShares x = Due.told("night;boy 0 0 10;boy 1 0 40;cells 0 0;cells 1 5;");
        due.is("nothing to undo", x.undo(), Due.NO);
        long first = x.digest();
        x.give(3, 1);
        x.swap(0, 5);
        x.sell(5, 1, 15);
        due.is("jam 0", x.of(0, 2), 25);
        due.is("undo the sale", x.undo(), 9);
        due.is("jam 0 again", x.of(0, 2), 10);
        due.is("jam 1 again", x.of(1, 2), 40);
        due.is("whose(5)", x.whose(5), 0);
        due.is("undo the swap", x.undo(), 9);
        due.is("whose(5) at first", x.whose(5), 1);
        due.is("undo the gift", x.undo(), 10);
        due.is("all as at first", x.digest(), first);
        due.is("nothing more", x.undo(), Due.NO);
        due.is("status(1)", x.status(1), 2);
        x.note(1, 5, 3, 0);
        x.give(0, -1);
        x.note(1, 6, 3, 0);
        x.undo();
        due.is("notes stay", x.count(4), 2);
    }

    private static void undoEight() {
        DarkShares x = Due.told("night;boy 0 0 0;");
        for (int j = 0; j < 11; j++) x.give(j, 0);
        due.is("eight at most", x.count(5), 8);
        for (int n = 1; n <= 8; n++) due.is("undo " + n, x.undo(), 1 + n);
        due.is("the ninth", x.undo(), Due.NO);
        due.is("the first three stay", x.of(0, 3), 7);
        x.give(9, 0);
        x.boy(0, 0, 0);
        due.is("behind a boy that comes", x.undo(), Due.NO);
        due.is("his stays", x.whose(9), 0);
    }

    private static void of() {
        DarkShares x = Due.told("night;boy 3 7 19;boy 5 0 0;cells 0 2 3 4 9;cells 1 10 11;");
        due.is("of(0, 0)", x.of(0, 0), 3);
        due.is("of(0, 1)", x.of(0, 1), 7);
        due.is("of(0, 2)", x.of(0, 2), 19);
        due.is("of(0, 3)", x.of(0, 3), Due.bits(2, 3, 4, 9));
        due.is("of(0, 4)", x.of(0, 4), 3 + 5 + 5 + 3);
        due.is("of(1, 4)", x.of(1, 4), 2 + 4 + 3);
        due.is("of(0, -1)", x.of(0, -1), Due.BAD);
        due.is("of(0, 5)", x.of(0, 5), Due.BAD);
        due.is("of(-1, 0)", x.of(-1, 0), Due.BAD);
        due.is("of(2, 0)", x.of(2, 0), Due.BAD);
        due.is("of(9, 9)", x.of(9, 9), Due.BAD);
        due.is("each once", x.status(0), 5);
    }

    private static void worthOfSingleCells() {
        int[][] alone = {
            {3, 3, 3, 3, 3, 3, 3, 3, 3, 3, 3, 3},
            {5, 5, 5, 3, 3, 3, 3, 3, 3, 3, 3, 3},
            {3, 3, 3, 3, 6, 6, 6, 6, 3, 3, 3, 3},
            {3, 3, 3, 3, 3, 3, 3, 3, 3, 3, 3, 3},
            {5, 5, 5, 3, 0, 0, 0, 0, 3, 3, 3, 3},
            {2, 2, 2, 2, 2, 2, 2, 2, 2, 2, 2, 5}};
        for (int kind = 0; kind < 6; kind++) {
            DarkShares x = new DarkShares();
            x.boy(kind, 0, 0);
            int more = kind == 3 || kind == 5 ? 2 : 0;
            for (int j = 0; j < 12; j++) {
                due.is("kind " + kind + " cell " + j, x.worth(0, 1 << j), alone[kind][j]);
                if (j == 0) continue;
                due.is("kind " + kind + " cells " + (j - 1) + ", " + j, x.worth(0, 3 << j - 1), alone[kind][j - 1] + alone[kind][j] + more);
            }
        }
    }

    private static void worthOfSets() {
        int[] all = {36, 42, 48, 58, 30, 49};
        for (int kind = 0; kind < 6; kind++) {
            DarkShares x = new DarkShares();
            x.boy(kind, 0, 0);
            due.is("all to kind " + kind, x.worth(0, 4095), all[kind]);
            due.is("none to kind " + kind, x.worth(0, 0), 0);
            due.is("4096 to kind " + kind, x.worth(0, 4096), Due.BAD);
            due.is("-1 to kind " + kind, x.worth(0, -1), Due.BAD);
        }
        DarkShares y = Due.told("night;boy 3 0 0;cells 0 0 1 2;");
        due.is("by the set asked about, not by his own", y.worth(0, Due.bits(3, 5)), 6);
        due.is("no such boy", y.worth(1, 0), Due.BAD);
        due.is("no boy at all", y.worth(-1, 0), Due.BAD);
    }

    private static void whose() {
        DarkShares x = Due.told("night;boy 0 0 0;boy 0 0 0;cells 1 0 11;");
        due.is("whose(0)", x.whose(0), 1);
        due.is("whose(11)", x.whose(11), 1);
        due.is("whose(5)", x.whose(5), Due.NONE);
        due.is("whose(-1)", x.whose(-1), -10);
        due.is("whose(12)", x.whose(12), -10);
        due.is("BAD both", x.status(0), 2);
    }
}
