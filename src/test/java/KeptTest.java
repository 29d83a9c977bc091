/** Promises 30 to 35: part, image, from, status, count, digest. */
public final class KeptTest {
    private static final Due due = new Due();

    public static void main(String[] args) {
        part();
        imagesKeepAll();
        imagesLeaveSome();
        imagesRefused();
        status();
        count();
        digestOfANewOne();
        digestByItsParts();
        digestTellsEach();
        due.end();
    }

    private static void part() {
        DarkShares x = Due.told("night;boy 0 0 0;cells 0 5;");
        x.owls(0, 5);
        due.is("part(0)", x.part(0), 3);
        due.is("part(1)", x.part(1), 2);
        due.is("part(-1)", x.part(-1), Due.BAD);
        due.is("part(2)", x.part(2), Due.BAD);
        due.is("status(0)", x.status(0), 2);
    }

    private static void imagesKeepAll() {
        DarkShares x = Due.told("night;boy 3 4 25;boy 1 2 3;cells 0 5;");
        x.give(7, 1);
        x.sell(5, 1, 2);
        x.note(1, 2, 3, 1);
        long first = x.digest();
        due.is("image(0)", x.image(0), 1);
        x.undo();
        x.boy(0, 0, 0);
        x.give(0, 2);
        x.note(2, 2, 2, 0);
        long second = x.digest();
        due.is("image(1)", x.image(1), 1);
        x.night();
        x.boy(0, 0, 0);
        x.note(0, 9, 9, 0);
        due.is("from(0)", x.from(0), 1);
        due.is("all as it was", x.digest(), first);
        due.is("undo goes on", x.undo(), 10);
        due.is("jam, too", x.of(1, 2), 3);
        due.is("and again", x.undo(), 11);
        due.is("no more", x.undo(), Due.NO);
        due.is("from(0) again, unchanged by what was done behind it", x.from(0), 1);
        due.is("all as it was again", x.digest(), first);
        due.is("from(1)", x.from(1), 1);
        due.is("the other", x.digest(), second);
        due.is("image(0) over the old one", x.image(0), 1);
        x.night();
        x.from(0);
        due.is("the newer", x.digest(), second);
    }

    private static void imagesLeaveSome() {
        DarkShares x = Due.told("night;boy 0 0 0;cells 0 5;");
        x.image(0);
        x.image(1);
        x.owls(0, 5);
        x.type(' ');
        x.of(9, 9);
        int length = x.count(6);
        due.is("from(0)", x.from(0), 1);
        due.is("the fraction stays", x.part(0), 3);
        due.is("the text stays", x.count(6), length);
        due.is("status stays", x.status(0), 1);
        x.give(6, 0);
        x.image(0);
        x.from(1);
        due.is("the one image leaves the other", x.whose(6), Due.NONE);
    }

    private static void imagesRefused() {
        DarkShares x = new DarkShares();
        due.is("image(-1)", x.image(-1), Due.BAD);
        due.is("image(2)", x.image(2), Due.BAD);
        due.is("from(-1)", x.from(-1), Due.BAD);
        due.is("from(2)", x.from(2), Due.BAD);
        due.is("from(0)", x.from(0), Due.NO);
        x.image(0);
        due.is("from(1)", x.from(1), Due.NO);
        due.is("from(0) of none", x.from(0), 1);
        due.is("status(0)", x.status(0), 4);
        due.is("status(1)", x.status(1), 2);
    }

    private static void status() {
        DarkShares x = new DarkShares();
        due.is("status(3)", x.status(3), -1);
        due.is("status(-1)", x.status(-1), -1);
        due.is("they count as BAD", x.status(0), 2);
        x.give(12, 0);
        x.whose(12);
        x.pieces(-2);
        x.swaps(-2);
        due.is("-10 counts as BAD", x.status(0), 6);
        x.pieces(7);
        x.swaps(7);
        x.sale(0, 0);
        x.longest(0);
        x.read();
        due.is("other answers don't", x.status(0) + x.status(1) + x.status(2), 6);
        x.undo();
        x.swap(0, 1);
        due.is("NO", x.status(1), 2);
        for (int n = 0; n < 7; n++) x.boy(0, 0, 0);
        due.is("FULL", x.status(2), 2);
        for (int n = 0; n < 2; n++) due.is("asking changes nothing", x.status(0), 6);
    }

    private static void count() {
        DarkShares x = Due.told("night;boy 0 1 20;boy 0 2 22;boy 0 0 1;cells 0 3 4;cells 1 5;");
        x.give(6, 2);
        x.give(7, 2);
        x.note(0, 0, 0, 0);
        int[] dues = {3, 7, 43, 2, 1, 2, 60};
        for (int what = 0; what < 7; what++) due.is("count(" + what + ")", x.count(what), dues[what]);
        due.is("count(-1)", x.count(-1), Due.BAD);
        due.is("count(7)", x.count(7), Due.BAD);
        due.is("status(0)", x.status(0), 2);
    }

    private static long mixed(long... values) {
        long h = 1193;
        for (long v : values) h = 31 * h + v;
        return h;
    }

    private static void digestOfANewOne() {
        due.is("digest()", new DarkShares().digest(), mixed(
            0, 12, 0, 0, 0, 0, 0,
            -1, -1, -1, -1, -1, -1, -1, -1, -1, -1, -1, -1,
            0, 1));
    }

    private static void digestByItsParts() {
        DarkShares x = new DarkShares();
        x.boy(3, 1, 25);
        x.boy(2, 2, 7);
        x.give(5, 1);
        x.give(11, 0);
        x.sell(4, 1, 3);
        x.note(1, 5, 6, 0);
        x.note(0, 11, 4, 1);
        x.owls(1, 5);
        x.type('n');
        due.is("digest()", x.digest(), mixed(
            2, 9, 29, 2, 2, 3, 1,
            3, 1, 25, 2, 2, 4,
            -1, -1, -1, -1, 1, 1, -1, -1, -1, -1, -1, 0,
            1, 5, 6, 0, 0, 11, 4, 1,
            6, 1));
        due.is("status is no part of it", x.of(9, 9) + x.digest(), x.digest() - 2);
    }

    private static void digestTellsEach() {
        DarkShares x = Due.told("night;boy 0 1 20;boy 0 2 22;cells 0 3 4;cells 1 5;");
        long one = x.digest();
        due.is("asking again", x.digest(), one);
        x.give(0, 0);
        due.is("another", x.digest() == one ? 1 : 0, 0);
        x.undo();
        due.is("undone", x.digest(), one);
        x.owls(0, 1);
        due.is("by the fraction", x.digest() == one ? 1 : 0, 0);
    }
}
