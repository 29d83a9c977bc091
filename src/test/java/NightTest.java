/** Promises 1 to 7: a new object, night, boy, give, type, clear, read. */
public final class NightTest {
    private static final Due due = new Due();

    public static void main(String[] args) {
        newObject();
        night();
        boy();
        give();
        typeAndClear();
        readWhole();
        readPutsAllInPlace();
        readFaults();
        readFaultsInNumbers();
        readLooksAtTheTextAlone();
        readKeepsAllAtAFault();
        due.end();
    }

    private static void newObject() {
        DarkShares x = new DarkShares();
        for (int what = 0; what <= 6; what++) due.is("new count(" + what + ")", x.count(what), what == 1 ? 12 : 0);
        for (int j = 0; j < 12; j++) due.is("new whose(" + j + ")", x.whose(j), Due.NONE);
        for (int what = 0; what < 3; what++) due.is("new status(" + what + ")", x.status(what), 0);
        due.is("new part(0)", x.part(0), 0);
        due.is("new part(1)", x.part(1), 1);
        due.is("new from(0)", x.from(0), Due.NO);
        due.is("new from(1)", x.from(1), Due.NO);
    }

    private static void night() {
        DarkShares x = Due.told("night;boy 0 3 9;boy 2 2 20;cells 0 4 5;");
        x.image(1);
        x.owls(0, 5);
        x.note(0, 1, 2, 0);
        x.give(0, 1);
        x.of(9, 9);
        due.is("night() with 2", x.night(), 2);
        due.is("night() again", x.night(), 0);
        for (int what = 0; what <= 5; what++) due.is("count(" + what + ") behind night", x.count(what), what == 1 ? 12 : 0);
        due.is("the text stays", x.count(6), 39);
        due.is("the fraction stays", x.part(0), 3);
        due.is("status stays", x.status(0), 1);
        due.is("undo() behind night", x.undo(), Due.NO);
        due.is("from(1) behind night", x.from(1), 1);
        due.is("boys from the image", x.count(0), 2);
    }

    private static void boy() {
        DarkShares x = new DarkShares();
        due.is("boy(-1, 0, 0)", x.boy(-1, 0, 0), Due.BAD);
        due.is("boy(6, 0, 0)", x.boy(6, 0, 0), Due.BAD);
        due.is("boy(0, -1, 0)", x.boy(0, -1, 0), Due.BAD);
        due.is("boy(0, 13, 0)", x.boy(0, 13, 0), Due.BAD);
        due.is("boy(0, 0, -1)", x.boy(0, 0, -1), Due.BAD);
        due.is("boy(0, 0, 41)", x.boy(0, 0, 41), Due.BAD);
        due.is("no boy came", x.count(0), 0);
        due.is("boy(0, 0, 0)", x.boy(0, 0, 0), 0);
        due.is("boy(5, 12, 40)", x.boy(5, 12, 40), 1);
        due.is("kind of 1", x.of(1, 0), 5);
        due.is("need of 1", x.of(1, 1), 12);
        due.is("jam of 1", x.of(1, 2), 40);
        due.is("cells of 1", x.of(1, 3), 0);
        x.give(0, 0);
        due.is("what may be undone", x.count(5), 1);
        due.is("a bad boy leaves it", x.boy(7, 0, 0) + x.count(5), Due.BAD + 1);
        due.is("boy(1, 1, 1)", x.boy(1, 1, 1), 2);
        due.is("a boy that comes doesn't", x.count(5), 0);
        due.is("boy 3", x.boy(2, 1, 1), 3);
        due.is("boy 4", x.boy(3, 1, 1), 4);
        x.give(1, 4);
        due.is("boy 5", x.boy(4, 1, 1), Due.FULL);
        due.is("a refused boy leaves what may be undone", x.count(5), 1);
        due.is("BAD ahead of FULL", x.boy(6, 1, 1), Due.BAD);
        due.is("boys", x.count(0), 5);
    }

    private static void give() {
        DarkShares x = new DarkShares();
        due.is("give(0, 0) without boys", x.give(0, 0), -10);
        x.boy(0, 0, 0);
        x.boy(0, 0, 0);
        due.is("give(-1, 0)", x.give(-1, 0), -10);
        due.is("give(12, 0)", x.give(12, 0), -10);
        due.is("give(0, -2)", x.give(0, -2), -10);
        due.is("give(0, 2)", x.give(0, 2), -10);
        due.is("five are BAD", x.status(0), 5);
        due.is("none may be undone", x.count(5), 0);
        due.is("give(11, 1)", x.give(11, 1), Due.NONE);
        due.is("give(11, 0)", x.give(11, 0), 1);
        due.is("give(11, 0) again", x.give(11, 0), 0);
        due.is("give(11, -1)", x.give(11, -1), 0);
        due.is("give(11, -1) again", x.give(11, -1), Due.NONE);
        due.is("each may be undone", x.count(5), 5);
        due.is("whose(11)", x.whose(11), Due.NONE);
    }

    private static void typeAndClear() {
        DarkShares x = new DarkShares();
        due.is("type(-1)", x.type(-1), Due.BAD);
        due.is("type(128)", x.type(128), Due.BAD);
        due.is("clear() of none", x.clear(), 0);
        due.is("type(0)", x.type(0), 1);
        due.is("type(127)", x.type(127), 2);
        due.is("clear()", x.clear(), 2);
        due.is("cleared", x.count(6), 0);
        for (int n = 1; n <= 150; n++) due.is("type the " + n + "th", x.type(' '), n);
        due.is("type the 151st", x.type(' '), Due.FULL);
        due.is("BAD ahead of FULL", x.type(200), Due.BAD);
        due.is("length", x.count(6), 150);
        due.is("read() of blanks", x.read(), -160);
        due.is("clear() of 150", x.clear(), 150);
        due.is("status(0)", x.status(0), 3);
        due.is("status(2)", x.status(2), 1);
    }

    private static void readWhole() {
        DarkShares x = new DarkShares();
        due.is("night;", Due.reading(x, "night;"), 1);
        due.is("blanks about", Due.reading(x, "   night  ;  "), 1);
        due.is("a boy", Due.reading(x, "night;boy 5 12 40;"), 2);
        due.is("two figures", Due.reading(x, "night;boy 05 02 00;"), 2);
        due.is("no blank behind a word", Due.reading(x, "night;boy5 12 40;"), 2);
        due.is("no cells", Due.reading(x, "night;boy 0 0 0;cells 0;"), 3);
        due.is("a cell again", Due.reading(x, "night;boy 0 0 0;cells 0 11 11 00;"), 3);
        due.is("five boys", Due.reading(x, "night;boy 0 0 0;boy 1 0 0;boy 2 0 0;boy 3 0 0;boy 4 0 0;cells 4 3;"), 7);
        due.is("the last one's kind", x.of(4, 0), 4);
        due.is("his cell", x.whose(3), 4);
        due.is("the text stays", x.count(6), 66);
        due.is("and is read again", x.read(), 7);
        String whole = "night;boy 0 0 0;cells 0";
        while (whole.length() < 149) whole += " 7";
        due.is("150 bytes", Due.reading(x, whole + (whole.length() == 149 ? ";" : "")), 3);
    }

    private static void readPutsAllInPlace() {
        DarkShares x = new DarkShares();
        x.boy(3, 3, 3);
        x.boy(3, 3, 3);
        x.give(9, 1);
        x.image(0);
        x.note(0, 1, 2, 0);
        x.owls(1, 5);
        due.is("read()", Due.reading(x, "night;boy 1 2 30;cells 0 1 2 3;boy 4 5 6;cells 1 3 0;cells 0 11;"), 6);
        due.is("boys", x.count(0), 2);
        due.is("kind 0", x.of(0, 0), 1);
        due.is("need 0", x.of(0, 1), 2);
        due.is("jam 0", x.of(0, 2), 30);
        due.is("kind 1", x.of(1, 0), 4);
        due.is("need 1", x.of(1, 1), 5);
        due.is("jam 1", x.of(1, 2), 6);
        due.is("cells 0", x.of(0, 3), Due.bits(1, 2, 11));
        due.is("cells 1, one of which was 0's", x.of(1, 3), Due.bits(0, 3));
        due.is("no notes", x.count(4), 0);
        due.is("nothing to undo", x.undo(), Due.NO);
        due.is("the fraction stays", x.part(0), 3);
        due.is("images stay", x.from(0), 1);
        due.is("as it was", x.whose(9), 1);
        due.is("undo of the image", x.undo(), 12);
    }

    private static void fault(String text, int place) {
        due.is("read of '" + text + "'", Due.reading(new DarkShares(), text), -10 - place);
    }

    private static void readFaults() {
        fault("", 0);
        fault("  ", 2);
        fault("night", 5);
        fault("night ", 6);
        fault("nigh", 0);
        fault(" nights;", 1);
        fault(";", 0);
        fault("boy 0 0 0;", 0);
        fault("7", 0);
        fault("Night;", 0);
        fault("nighT;", 0);
        fault("nightT;", 5);
        fault("xight;", 0);
        fault("nighta;", 0);
        fault("nightz;", 0);
        fault("night`;", 5);
        fault("night{;", 5);
        fault("night;night;", 6);
        fault("night; ;", 7);
        fault("night boy 0 0 0;", 6);
        fault("night 1;", 6);
        fault("night;boys 0 0 0;", 6);
        fault("night;bo", 6);
        fault("night;0", 6);
        fault("night;boy", 9);
        fault("night;boy;", 9);
        fault("night;boy 0 0;", 13);
        fault("night;boy 0 0 0", 15);
        fault("night;boy 0 0 0 0;", 16);
        fault("night;boy 0 0 a;", 14);
        fault("night;boy 0 0 -1;", 14);
        fault("night;boy 0 0 0;boy 0 0 0;boy 0 0 0;boy 0 0 0;boy 0 0 0;boy 9 0 0;", 56);
        fault("night;boy 0 0 0;boy 0 0 0;boy 0 0 0;boy 0 0 0;boy 0 0 0; boy", 57);
        fault("night;cells", 11);
        fault("night;cells;", 11);
        fault("night;boy 0 0 0;cells 0", 23);
        fault("night;boy 0 0 0;cells 0 1 ", 26);
        fault("night;boy 0 0 0;cells 0 boy", 24);
        fault("night;boy 0 0 0;cells 0 1,2;", 25);
        fault("night;\tboy 0 0 0;", 6);
        fault("night;" + (char) 0, 6);
    }

    private static void readFaultsInNumbers() {
        fault("night;boy 6 0 0;", 10);
        fault("night;boy 5 13 0;", 12);
        fault("night;boy 5 12 41;", 15);
        fault("night;boy 5 12 99", 15);
        fault("night;boy 000 0 0;", 10);
        fault("night;boy 0 012 0;", 12);
        fault("night;boy 0 0 1000000000000;", 14);
        fault("night;cells 0;", 12);
        fault("night;boy 0 0 0;cells 1;boy 0 0 0;", 22);
        fault("night;boy 0 0 0;cells 0 12;", 24);
        fault("night;boy 0 0 0;cells 0 11 001;", 27);
        fault("night;boy 0 0 0;cells 000 1;", 22);
        fault("night;boy 0 0 /;", 14);
        fault("night;boy 0 0 :;", 14);
    }

    private static void readLooksAtTheTextAlone() {
        DarkShares x = new DarkShares();
        Due.reading(x, "nights;boy 0 0 123;");
        due.is("what was there ahead of clear() is gone", Due.reading(x, "night"), -15);
        Due.reading(x, "night;boy 0 0 1;cells 0 111;");
        due.is("figures, too", Due.reading(x, "night;boy 0 0 1;cells 0 11"), -36);
        x.type(';');
        due.is("now it ends", x.read(), 3);
        due.is("a night alone", Due.reading(x, "night;"), 1);
        due.is("has no boys", x.count(0), 0);
        due.is("and no cells", x.count(1), 12);
    }

    private static void readKeepsAllAtAFault() {
        DarkShares x = Due.told("night;boy 3 4 5;cells 0 6 7;");
        x.note(0, 1, 2, 1);
        x.give(3, 0);
        Due.typed(x, "night;boy 0 0 0;boy 1 1 1;cells 1 2 12;");
        long ahead = x.digest();
        due.is("read()", x.read(), -46);
        due.is("all stays", x.digest(), ahead);
        due.is("a fault is not refused as BAD", x.status(0) + x.status(1) + x.status(2), 0);
        due.is("undo() goes on", x.undo(), 10);
    }
}
