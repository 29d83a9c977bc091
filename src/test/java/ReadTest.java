/** Promise 7: read, and what the Terms say of a TEXT. */
public final class ReadTest {
    private static final String FIVE = "night;boy 0 0 0;boy 1 0 0;boy 2 0 0;boy 3 0 0;boy 4 0 0;";

    public static void main(String[] args) throws Exception {
        Due.runAll(ReadTest.class);
    }

    /** The answer is told by the fault's place; nothing is changed by it, nor is it refused as BAD, NO, FULL. */
    private static void fault(Due due, String text, int place) {
        DarkShares x = new DarkShares();
        x.boy(3, 4, 5);
        x.boy(2, 1, 9);
        x.note(1, 2, 3, 1);
        x.give(3, 1);
        Due.typed(x, text);
        due.changesNothing("read() of '" + text + "'", -10 - place, x, x::read);
    }

    private static void items(Due due, String text, int items) {
        due.is("read() of '" + text + "'", Due.reading(new DarkShares(), text), items);
    }

    // ---- what can be read

    static void promise07NightAlone(Due due) {
        DarkShares x = Due.given(Due.boys(0, 1), "01");
        due.is("read()", Due.reading(x, "night;"), 1);
        due.is("boys", x.count(0), 0);
        due.is("cells", Due.cells(x), "............");
    }

    static void promise07EachItemCounts(Due due) {
        items(due, "night;boy 0 0 0;", 2);
        items(due, "night;boy 0 0 0;cells 0 1;", 3);
        items(due, FIVE, 6);
        items(due, FIVE + "cells 4 3;cells 4 3;", 8);
    }

    static void promise07BlanksMayStandBetween(Due due) {
        items(due, "   night  ;  ", 1);
        items(due, "night ; boy  0  0  0 ;  cells 0 1  2 ; ", 3);
    }

    static void promise07NoBlankIsNeededWhereTokensPart(Due due) {
        items(due, "night;boy0 0 0;cells0 1;", 3);
        DarkShares x = Due.told("night;boy5 12 40;");
        due.is("kind", x.of(0, 0), 5);
    }

    static void promise07OneOrTwoFigures(Due due) {
        DarkShares x = Due.told("night;boy 05 09 07;boy 1 10 40;cells 01 00 11 02;");
        due.is("kind", x.of(0, 0), 5);
        due.is("need", x.of(0, 1), 9);
        due.is("jam", x.of(0, 2), 7);
        due.is("need of two figures", x.of(1, 1), 10);
        due.is("jam of two figures", x.of(1, 2), 40);
        due.is("cells", Due.cells(x), "1.1........1");
    }

    static void promise07LeastAndMostOfABoy(Due due) {
        DarkShares x = Due.told("night;boy 0 0 0;boy 5 12 40;");
        due.is("kind 0", x.of(0, 0), 0);
        due.is("need 0", x.of(0, 1), 0);
        due.is("jam 0", x.of(0, 2), 0);
        due.is("kind 5", x.of(1, 0), 5);
        due.is("need 12", x.of(1, 1), 12);
        due.is("jam 40", x.of(1, 2), 40);
    }

    static void promise07FirstAndLastCellOfFirstAndLastBoy(Due due) {
        due.is("cells", Due.cells(Due.told(FIVE + "cells 0 0;cells 4 11;")), "0..........4");
    }

    static void promise07CellsOfNone(Due due) {
        DarkShares x = Due.told("night;boy 0 0 0;cells 0;");
        due.is("cells", Due.cells(x), "............");
    }

    static void promise07AllCells(Due due) {
        due.is("cells", Due.cells(Due.told("night;boy 0 0 0;cells 0 0 1 2 3 4 5 6 7 8 9 10 11;")), "000000000000");
    }

    static void promise07CellsInAnyOrderAndAgain(Due due) {
        due.is("cells", Due.cells(Due.told("night;boy 0 0 0;cells 0 11 3 11 0 3;")), "0..0.......0");
    }

    static void promise07CellsAreHisThen(Due due) {
        DarkShares x = Due.told("night;boy 1 2 30;cells 0 1 2 3;boy 4 5 6;cells 1 3 0;cells 0 11;");
        due.is("one was another's", Due.cells(x), "100" + "1.......0");
    }

    static void promise07FiveBoys(Due due) {
        DarkShares x = Due.told(FIVE);
        due.is("boys", x.count(0), 5);
        for (int b = 0; b < 5; b++) due.is("kind of " + b, x.of(b, 0), b);
    }

    static void promise07HundredAndFiftyBytes(Due due) {
        StringBuilder text = new StringBuilder("night;boy 0 0 0;cells 0 ");
        while (text.length() < 149) text.append('7');
        for (int n = 25; n < 149; n += 2) text.setCharAt(n, ' ');
        DarkShares x = new DarkShares();
        due.is("read()", Due.reading(x, text + ";"), 3);
        due.is("bytes", x.count(6), 150);
        due.is("cells", Due.cells(x), ".......0....");
        items(due, "night;" + ";".repeat(144), -16);
        items(due, " ".repeat(150), -160);
        items(due, " ".repeat(144) + "night;", 1);
        items(due, " ".repeat(145) + "night", -160);
    }

    // ---- what it takes the place of

    static void promise07NotesAreNone(Due due) {
        DarkShares x = Due.boys(0);
        x.note(0, 1, 5, 0);
        due.is("read()", Due.reading(x, "night;boy 0 0 0;"), 2);
        due.is("notes", x.count(4), 0);
        due.is("is(0)", x.is(0), 63);
    }

    static void promise07NothingToUndo(Due due) {
        DarkShares x = Due.given(Due.boys(0), "000");
        due.is("read()", Due.reading(x, "night;boy 0 0 0;cells 0 1;"), 3);
        due.is("count(5)", x.count(5), 0);
        due.is("undo()", x.undo(), Due.NO);
        due.is("cells", Due.cells(x), ".0..........");
    }

    static void promise07NothingToUndoBehindNightAlone(Due due) {
        DarkShares x = Due.given(Due.boys(0), "000");
        due.is("read()", Due.reading(x, "night;"), 1);
        due.is("undo()", x.undo(), Due.NO);
    }

    static void promise07BoysAndCellsAreThoseOfTheText(Due due) {
        DarkShares x = Due.given(Due.boys(1, 2, 3), "012012012012");
        due.is("read()", Due.reading(x, "night;boy 5 6 7;cells 0 4;"), 3);
        due.is("boys", x.count(0), 1);
        due.is("kind", x.of(0, 0), 5);
        due.is("need", x.of(0, 1), 6);
        due.is("jam", x.of(0, 2), 7);
        due.is("cells", Due.cells(x), "....0.......");
    }

    static void promise07ImagesStay(Due due) {
        DarkShares x = Due.given(Due.boys(1, 2), "01");
        x.image(0);
        x.image(1);
        due.is("read()", Due.reading(x, "night;"), 1);
        due.is("from(0)", x.from(0), 1);
        due.is("cells", Due.cells(x), "01..........");
        due.is("undo()", x.undo(), 11);
        due.is("from(1)", x.from(1), 1);
        due.is("cells", Due.cells(x), "01..........");
    }

    static void promise07TheTextStays(Due due) {
        DarkShares x = new DarkShares();
        due.is("read()", Due.reading(x, "night;boy 0 0 0;"), 2);
        due.is("count(6)", x.count(6), 16);
        due.is("read() again", x.read(), 2);
    }

    static void promise07TheFractionStays(Due due) {
        DarkShares x = Due.given(Due.boys(0), "....0");
        x.owls(0, 5);
        due.is("read()", Due.reading(x, "night;"), 1);
        due.is("part(0)", x.part(0), 3);
        due.is("part(1)", x.part(1), 2);
    }

    static void promise07StatusStays(Due due) {
        DarkShares x = Due.boys(0, 0, 0, 0, 0, 0);
        x.undo();
        x.whose(12);
        due.is("read()", Due.reading(x, "night;"), 1);
        for (int what = 0; what < 3; what++) due.is("status(" + what + ")", x.status(what), 1);
    }

    // ---- faults

    static void promise07AnEmptyText(Due due) {
        fault(due, "", 0);
    }

    static void promise07BlanksAlone(Due due) {
        fault(due, " ", 1);
        fault(due, "   ", 3);
    }

    static void promise07ItEndsTooEarly(Due due) {
        fault(due, "night", 5);
        fault(due, "night ", 6);
        fault(due, "night;boy", 9);
        fault(due, "night;boy 0", 11);
        fault(due, "night;boy 0 0", 13);
        fault(due, "night;boy 0 0 0", 15);
        fault(due, "night;boy 0 0 0   ", 18);
        fault(due, "night;cells", 11);
        fault(due, "night;boy 0 0 0;cells ", 22);
        fault(due, "night;boy 0 0 0;cells 0", 23);
        fault(due, "night;boy 0 0 0;cells 0 1 ", 26);
    }

    static void promise07AWordThatIsNone(Due due) {
        fault(due, "nights;", 0);
        fault(due, "nigh;", 0);
        fault(due, "n", 0);
        fault(due, " xight;", 1);
        fault(due, "nighy;", 0);
        fault(due, "night;boys 0 0 0;", 6);
        fault(due, "night;bo", 6);
        fault(due, "night;boz 0 0 0;", 6);
        fault(due, "night;boy 0 0 0; cell 0;", 17);
        fault(due, "night;boy 0 0 0;cellss 0;", 16);
        fault(due, "nightboy 0 0 0;", 0);
    }

    static void promise07AWordOfOtherLetters(Due due) {
        fault(due, "Night;", 0);
        fault(due, "nighT;", 0);
        fault(due, "nightT;", 5);
        fault(due, "night;Boy 0 0 0;", 6);
        fault(due, "nighta;", 0);
        fault(due, "nightz;", 0);
        fault(due, "night`;", 5);
        fault(due, "night{;", 5);
        fault(due, "nightA;", 5);
        fault(due, "nightZ;", 5);
    }

    static void promise07NightAgain(Due due) {
        fault(due, "night;night;", 6);
        fault(due, "night;boy 0 0 0; night;", 17);
        fault(due, "night night;", 6);
    }

    static void promise07AnythingAheadOfNight(Due due) {
        fault(due, "boy 0 0 0;night;", 0);
        fault(due, " cells 0;night;", 1);
        fault(due, ";night;", 0);
        fault(due, "  7 night;", 2);
        fault(due, "123", 0);
        fault(due, "-night;", 0);
    }

    static void promise07SixthBoyAtItsWord(Due due) {
        fault(due, FIVE + "boy 0 0 0;", 56);
        fault(due, FIVE + "boy 9 99 999;", 56);
        fault(due, FIVE + "boy", 56);
        fault(due, FIVE + "cells 4 1;  boy 0 0 0;", 68);
    }

    static void promise07AThirdFiguresNumber(Due due) {
        fault(due, "night;boy 007 0 0;", 10);
        fault(due, "night;boy 0 012 0;", 12);
        fault(due, "night;boy 0 0 000;", 14);
        fault(due, "night;boy 0 0 0;cells 000 1;", 22);
        fault(due, "night;boy 0 0 0;cells 0 11 001;", 27);
        fault(due, "night;boy 0 0 1000000000000000000000;", 14);
        fault(due, "night;boy 0 0 4294967296;", 14);
    }

    static void promise07KindNotAsTold(Due due) {
        fault(due, "night;boy 6 0 0;", 10);
        fault(due, "night;boy 99 0 0;", 10);
    }

    static void promise07NeedNotAsTold(Due due) {
        fault(due, "night;boy 5 13 0;", 12);
        fault(due, "night;boy 5  99", 13);
    }

    static void promise07JamNotAsTold(Due due) {
        fault(due, "night;boy 5 12 41;", 15);
        fault(due, "night;boy 5 12 99", 15);
    }

    static void promise07CellNotAsTold(Due due) {
        fault(due, "night;boy 0 0 0;cells 0 12;", 24);
        fault(due, "night;boy 0 0 0;cells 0 11 12;", 27);
        fault(due, "night;boy 0 0 0;cells 0 11 99;", 27);
    }

    static void promise07BoyNotThereYet(Due due) {
        fault(due, "night;cells 0;", 12);
        fault(due, "night;boy 0 0 0;cells 1;boy 0 0 0;", 22);
        fault(due, FIVE + "cells 5 1;", 62);
        fault(due, "night;cells 0 1;boy 0 0 0;", 12);
    }

    static void promise07AByteThatBeginsNone(Due due) {
        fault(due, "night;boy 0 0 -1;", 14);
        fault(due, "night;boy 0 0 0;cells 0 1,2;", 25);
        fault(due, "night;\tboy 0 0 0;", 6);
        fault(due, "night;\n", 6);
        fault(due, "night;" + (char) 0, 6);
        fault(due, "night;" + (char) 31, 6);
        fault(due, "night;" + (char) 33, 6);
        fault(due, "night;" + (char) 127, 6);
        fault(due, "night;boy 0 0 /;", 14);
        fault(due, "night;boy 0 0 :;", 14);
        fault(due, "night;boy 0 0 0<", 15);
        fault(due, "night -", 6);
    }

    static void promise07ATokenOfAnotherSort(Due due) {
        fault(due, "night;;", 6);
        fault(due, "night; ;", 7);
        fault(due, "night;0", 6);
        fault(due, "night boy 0 0 0;", 6);
        fault(due, "night 1;", 6);
        fault(due, "night;boy;", 9);
        fault(due, "night;boy 0;", 11);
        fault(due, "night;boy 0 0;", 13);
        fault(due, "night;boy 0 0 0 0;", 16);
        fault(due, "night;boy boy 0 0;", 10);
        fault(due, "night;boy 0 a 0;", 12);
        fault(due, "night;boy 0 0 night;", 14);
        fault(due, "night;cells;", 11);
        fault(due, "night;boy 0 0 0;cells 0 boy", 24);
        fault(due, "night;boy 0 0 0;cells b 1;", 22);
    }

    static void promise07NoNumberWrapsAround(Due due) {
        // Taken as figures, these would come to 3 once they had gone round all ints.
        fault(due, "night;boy 4294967299 0 0;", 10);
        fault(due, "night;boy bdjabdaebc 0 0;", 10);
    }

    static void promise07TheFirstFaultIsTold(Due due) {
        fault(due, "night;boy 6 13 41;", 10);
        fault(due, "night;boy 5 13 41;", 12);
        fault(due, "night;cells 0 12;cells", 12);
    }

    static void promise07AFaultAtTheVeryEndLeavesAll(Due due) {
        fault(due, "night;boy 0 0 0;boy 1 1 1;cells 1 2 3;cells 0 2;.", 48);
    }

    static void promise07TheTextAloneIsLookedAt(Due due) {
        DarkShares x = new DarkShares();
        Due.typed(x, "nights;boy 0 0 123;");
        due.is("letters that were behind it", Due.reading(x, "night"), -15);
        Due.typed(x, "night;boy 0 0 1;cells 0 111;");
        due.is("figures that were behind it", Due.reading(x, "night;boy 0 0 1;cells 0 11"), -36);
        x.type(';');
        due.is("now it ends", x.read(), 3);
        due.is("cells", Due.cells(x), "...........0");
    }
}
