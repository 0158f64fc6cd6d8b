/**
 * Promises 11 to 21 at their edges: the empty and the full drawing, corners and ends of rows that
 * are not beside one another, the last cell of a land, one more or less than due, no fewer faults.
 */
public final class DrawingEdgesTest {
    private static final int NONE = PeopleLands.NONE, STATE = PeopleLands.STATE;
    private static final String[] ROWS = {"000000", "111111", "222222", "333333", "444444", "555555"};

    public static void main(String[] args) {
        partsEmptyAndFull();
        partsApart();
        besideByASideAlone();
        besideEmptyAndFull();
        faultsOfNothing();
        faultsOneOff();
        faultsOfParts();
        faultsOfPairs();
        wouldOfTheSea();
        wouldOfALand();
        wouldEmptyAndFull();
        mendIfFewer();
        mendFirstAndLast();
        mendOfLikeOnes();
        mayHandOfTwoCells();
        mayHandOfParts();
        mayHandByASideAlone();
        handAtTheEdges();
        chainOneOff();
        chainWithoutAnEnd();
        chainShortestAndLongest();
        linkAskedFirst();
        passShortestAndLongest();
        settleAtItsEnds();
        Check.end("DrawingEdgesTest");
    }

    private static void partsEmptyAndFull() {
        PeopleLands x = Scene.empty(6, 6).make();
        x.box(false, 0, 35, 5);
        for (int land = 0; land < 6; land++) {
            Check.due(11, "nothing is drawn: parts(" + land + ")", x.parts(land), 0);
        }
        x.box(true, 0, 35, 5);
        Check.due(11, "all of it is one", x.parts(5), 1);
        x.box(true, 0, 35, 6);
        x.give(true, 0, 0);
        Check.due(11, "the first cell alone", x.parts(0), 1);
        x.give(true, 35, 0);
        Check.due(11, "and the last", x.parts(0), 2);
        x.give(true, 5, 0);
        x.give(true, 30, 0);
        Check.due(11, "all four corners", x.parts(0), 4);
        Check.due(11, "another has none", x.parts(5), 0);
    }

    private static void partsApart() {
        for (int w = 2; w <= 6; w++) {
            for (int h = 2; h <= 6; h++) {
                PeopleLands x = new PeopleLands();
                x.field(w, h);
                x.give(true, w - 1, 3);
                x.give(true, w, 3);
                Check.due(11, "a row's end, the next one's begin, " + w + " wide", x.parts(3), 2);
                x.give(true, w, 6);
                x.give(true, 2 * w - 1, 3);
                Check.due(11, "one below the other, " + w + " wide", x.parts(3), 1);
                x.give(true, 2 * w - 1, 6);
                x.give(true, 2 * w - 2, 3);
                Check.due(11, "by a corner, " + w + " wide", x.parts(3), 2);
                x.give(true, w - 2, 3);
                Check.due(11, "by the cell between, " + w + " wide", x.parts(3), 1);
            }
        }
        PeopleLands x = Check.mapped("......", "......", "......", "......", "......", "......");
        Check.draw(x, true, "0.0...", "......", "......", "......", "......", "0.0...");
        Check.due(11, "not around the column's end", x.parts(0), 4);
        Check.draw(x, true, "0....0", "......", "......", "......", "......", "......");
        Check.due(11, "not around the row's end", x.parts(0), 2);
        Check.draw(x, true, "0.0000", "0.0..0", "0.0.00", "0.0.0.", "0.0.00", "000..0");
        Check.due(11, "one long way", x.parts(0), 1);
    }

    private static void besideByASideAlone() {
        for (int w = 2; w <= 6; w++) {
            for (int h = 2; h <= 6; h++) {
                int last = w * h - 1;
                isBeside(w, h, 0, 1, 1);
                isBeside(w, h, 0, w, 1);
                isBeside(w, h, last - 1, last, 1);
                isBeside(w, h, last - w, last, 1);
                isBeside(w, h, 0, w + 1, 0);
                isBeside(w, h, 1, w, 0);
                isBeside(w, h, last - w - 1, last, 0);
                isBeside(w, h, 0, w - 1, w == 2 ? 1 : 0);
                isBeside(w, h, 0, last - w + 1, h == 2 ? 1 : 0);
                isBeside(w, h, 0, last, 0);
                isBeside(w, h, last - w, last - w + 1, 0);
            }
        }
    }

    private static void isBeside(int w, int h, int cell, int other, int want) {
        for (boolean drawn : new boolean[] {false, true}) {
            PeopleLands x = new PeopleLands();
            x.field(w, h);
            x.give(drawn, cell, 0);
            x.give(drawn, other, 5);
            String when = w + " by " + h + ", cells " + cell + " and " + other;
            Check.due(12, when + ": beside(" + drawn + ", 0, 5)", x.beside(drawn, 0, 5), want);
            Check.due(12, when + ": beside(" + drawn + ", 5, 0)", x.beside(drawn, 5, 0), want);
            Check.due(12, when + ", in the other", x.beside(!drawn, 0, 5), 0);
        }
    }

    private static void besideEmptyAndFull() {
        PeopleLands empty = Scene.empty(4, 4).make();
        PeopleLands full = Scene.full().make();
        for (int a = 0; a < 6; a++) {
            for (int b = 0; b < 6; b++) {
                int none = a == b ? STATE : 0;
                int rows = a == b ? STATE : Math.abs(a - b) == 1 ? 1 : 0;
                Check.due(12, "empty: beside(true, " + a + ", " + b + ")", empty.beside(true, a, b), none);
                Check.due(12, "empty: beside(false, " + a + ", " + b + ")", empty.beside(false, a, b), none);
                Check.due(12, "full: beside(true, " + a + ", " + b + ")", full.beside(true, a, b), rows);
                Check.due(12, "full: beside(false, " + a + ", " + b + ")", full.beside(false, a, b), rows);
            }
        }
    }

    private static void faultsOfNothing() {
        Check.due(13, "empty, nobody", Scene.empty(6, 6).make().faults(), 0);
        Check.due(13, "full, all as due, pairs of rows as pairs of columns", Scene.full().make().faults(), 0);
        PeopleLands x = Scene.empty(6, 6).make();
        x.box(true, 0, 35, 0);
        Check.due(13, "all of it is too much", x.faults(), 36);
        x.box(false, 0, 35, 0);
        Check.due(13, "without heads it still is", x.faults(), 36);
        x.heads(0, 1);
        Check.due(13, "as due", x.faults(), 0);
        x.box(true, 0, 35, 6);
        Check.due(13, "nothing is drawn", x.faults(), 36);
        x.box(true, 0, 35, 5);
        Check.due(13, "all of it another's", x.faults(), 72);
    }

    private static void faultsOneOff() {
        PeopleLands x = Check.mapped("00", "0.");
        x.heads(0, 1);
        x.trace();
        Check.due(13, "three as due", x.faults(), 0);
        x.give(true, 3, 0);
        Check.due(13, "one more", x.faults(), 1);
        Check.draw(x, true, "00", "..");
        Check.due(13, "one less", x.faults(), 1);
        Check.draw(x, true, "..", "..");
        Check.due(13, "three less, and no part is no fault", x.faults(), 3);
    }

    private static void faultsOfParts() {
        PeopleLands x = Check.mapped("000", "000");
        x.heads(0, 1);
        Check.draw(x, true, "000", "00.");
        Check.due(13, "one part", x.faults(), 1);
        Check.draw(x, true, "00.", "..0");
        Check.due(13, "two parts, by a corner", x.faults(), 3 + 3);
        Check.draw(x, true, "0.0", ".0.");
        Check.due(13, "three parts", x.faults(), 3 + 6);
        x.give(false, 0, 1);
        x.give(false, 2, 1);
        x.heads(1, 1);
        x.trace();
        Check.due(13, "parts of the map are faults in the drawing too: 3 3 due, 4 2 drawn", x.faults(), 1 + 1 + 3);
    }

    private static void faultsOfPairs() {
        PeopleLands x = Check.mapped("01", "..");
        Check.heads(x, 1, 1);
        Check.draw(x, true, "0.", ".1");
        Check.due(13, "neighbours in the map alone", x.faults(), 2);
        Check.draw(x, false, "0.", ".1");
        Check.due(13, "in neither", x.faults(), 0);
        Check.draw(x, true, "01", "..");
        Check.due(13, "in the drawing alone", x.faults(), 1);
        Check.draw(x, false, "01", "..");
        Check.due(13, "in both", x.faults(), 0);
        x = Check.mapped("010", "101");
        Check.heads(x, 1, 1);
        Check.draw(x, true, "000", "111");
        Check.due(13, "a pair is one pair, by however many sides", x.faults(), 0);
        Check.draw(x, true, "000", "222");
        Check.due(13, "three too few, three too many, one pair less, one more", x.faults(), 3 + 3 + 2 + 1);
    }

    private static void wouldOfTheSea() {
        PeopleLands x = Check.mapped("00", "..");
        x.heads(0, 1);
        for (int cell = 0; cell < 4; cell++) {
            Check.due(14, "any cell to a land that has none", x.would(cell, 0), 1);
            Check.due(14, "any cell to any land that has none", x.would(cell, 5), 2 + 1);
            Check.due(14, "none to none", x.would(cell, 6), STATE);
        }
        x.give(true, 0, 0);
        Check.due(14, "beside it", x.would(1, 0), 0);
        Check.due(14, "below it", x.would(2, 0), 0);
        Check.due(14, "by a corner, and it has one", x.would(3, 0), STATE);
        Check.due(14, "to another that has none", x.would(3, 5), 1 + 1);
        Check.due(14, "beside, to another that has none", x.would(1, 5), 1 + 1 + 1);
        Check.due(14, "the last one to none", x.would(0, 6), 2);
        Check.isDrawn(14, "nothing is changed", x, true, "0.", "..");
    }

    private static void wouldOfALand() {
        PeopleLands x = Check.mapped("00", "..");
        x.heads(0, 1);
        Check.draw(x, true, "01", "..");
        Check.due(14, "the last one to another: 0 2", x.would(0, 1), 2 + 2);
        Check.due(14, "the last one of the other", x.would(1, 0), 0);
        Check.due(14, "to its own", x.would(0, 0), STATE);
        Check.due(14, "to one that has none", x.would(0, 5), STATE);
        Check.due(14, "to none", x.would(1, 6), 1);
        Check.draw(x, true, "01", "12");
        Check.due(14, "by a corner", x.would(0, 2), STATE);
        Check.due(14, "cuts none: 1 has one less", x.would(1, 0), 0 + 1 + 1 + 3);
        Check.isDrawn(14, "nothing is changed", x, true, "01", "12");
    }

    private static void wouldEmptyAndFull() {
        PeopleLands x = Scene.empty(6, 6).make();
        for (int land = 0; land < 6; land++) {
            Check.due(14, "empty: would(35, " + land + ")", x.would(35, land), 1);
            Check.due(14, "empty: would(0, " + land + ")", x.would(0, land), 1);
        }
        x.box(true, 0, 35, 3);
        for (int land = 0; land < 6; land++) {
            Check.due(14, "full: would(35, " + land + ")", x.would(35, land), STATE);
        }
        Check.due(14, "full: would(35, 6)", x.would(35, 6), 35);
        Check.due(14, "full: would(0, 6)", x.would(0, 6), 35);
        Check.due(14, "full: would(14, 6)", x.would(14, 6), 35);
    }

    private static void mendIfFewer() {
        Scene.empty(4, 4).keeps(15, "mend()", NONE, x -> x.mend());
        Scene.full().keeps(15, "mend(), without faults", NONE, x -> x.mend());
        PeopleLands x = Check.mapped("00", "..");
        x.heads(0, 1);
        x.give(true, 0, 0);
        Check.due(15, "fewer by one", x.mend(), 10);
        Check.due(15, "without faults", x.mend(), NONE);
        x = Check.mapped("01", "..");
        Check.heads(x, 1, 1);
        Check.draw(x, true, "0.", ".1");
        Check.due(15, "two faults", x.faults(), 2);
        Check.due(15, "one cell more and the pair: fewer by one", x.mend(), 10);
        Check.due(15, "one fault", x.faults(), 1);
        x = Check.mapped("0.", ".1");
        Check.heads(x, 1, 1);
        Check.draw(x, true, "01", "..");
        Check.due(15, "one fault: a pair", x.faults(), 1);
        Check.due(15, "one less and no pair is as many: none", x.mend(), NONE);
        Check.isDrawn(15, "nothing is changed", x, true, "01", "..");
    }

    private static void mendFirstAndLast() {
        PeopleLands x = Check.mapped("0.", "..");
        x.heads(0, 1);
        Check.due(15, "cell 0 to land 0", x.mend(), 0);
        Check.due(15, "cell 0 to land 0", x.at(true, 0), 0);
        x = Scene.empty(6, 6).make();
        x.give(true, 35, 5);
        Check.due(15, "cell 35 to none", x.mend(), 356);
        Check.due(15, "cell 35 to none", x.at(true, 35), 6);
        x = Check.mapped(ROWS);
        Check.heads(x, 1, 1, 1, 1, 1, 1);
        x.trace();
        x.give(true, 35, 6);
        Check.due(15, "cell 35 to land 5", x.mend(), 355);
        Check.due(15, "cell 35 to land 5", x.at(true, 35), 5);
        x = Check.mapped("0.", "..");
        Check.draw(x, true, "4.", "..");
        x.heads(4, 1);
        Check.due(15, "the map's own land has no heads", x.mend(), NONE);
    }

    private static void mendOfLikeOnes() {
        PeopleLands x = Check.mapped(".22", "..2");
        Check.heads(x, 1, 0, 3);
        Check.draw(x, true, "00.", "2..");
        Check.due(15, "due 1 0 2, and a pair", x.faults(), 3);
        Check.due(15, "cell 0 to 2", x.would(0, 2), 1);
        Check.due(15, "cell 0 to none", x.would(0, 6), 1);
        Check.due(15, "of like ones to a land ahead of none", x.mend(), 2);
        x = Scene.empty(2, 2).make();
        x.box(true, 0, 3, 0);
        Check.due(15, "of like ones the least cell", x.mend(), 6);
        Check.isDrawn(15, "it alone", x, true, ".0", "00");
        x = Check.mapped("01", "23");
        Check.heads(x, 0, 0, 0, 0, 1, 1);
        Check.due(15, "of like ones the least cell, then the least land", x.mend(), 4);
    }

    private static void mayHandOfTwoCells() {
        PeopleLands x = Check.mapped("...", "...");
        Check.draw(x, true, "001", "...");
        Check.due(16, "one of two", x.mayHand(1, 1), 1);
        Check.due(16, "the only one", x.mayHand(2, 0), 0);
        Check.due(17, "the only one", x.hand(2, 0), STATE);
        Check.due(17, "one of two", x.hand(1, 1), 0);
        Check.due(17, "now it is the only one", x.hand(0, 1), STATE);
        Check.due(17, "one of two back", x.hand(1, 0), 1);
        Check.isDrawn(17, "as ahead of it", x, true, "001", "...");
    }

    private static void mayHandOfParts() {
        PeopleLands x = Check.mapped("...", "...");
        Check.draw(x, true, "010", "...");
        Check.due(16, "one part less", x.mayHand(0, 1), 1);
        Check.due(16, "the only one", x.mayHand(1, 0), 0);
        Check.draw(x, true, "000", ".1.");
        Check.due(16, "one part more", x.mayHand(1, 1), 0);
        Check.draw(x, true, "000", "010");
        Check.due(16, "one part more", x.mayHand(1, 1), 0);
        Check.due(16, "an end: as many parts", x.mayHand(3, 1), 1);
        Check.draw(x, true, "000", "100");
        Check.due(16, "a corner of a ring: as many parts", x.mayHand(4, 1), 1);
        Check.draw(x, true, "0.0", "010");
        Check.due(16, "two parts stay two", x.mayHand(3, 1), 1);
        x = Check.mapped(".....", ".....");
        Check.draw(x, true, "00010", ".1000");
        Check.due(16, "the middle of one of its parts: 1 more", x.mayHand(1, 1), 0);
        Check.due(16, "what joins them: 1 more", x.mayHand(7, 1), 0);
        Check.due(16, "an end", x.mayHand(4, 1), 1);
        Check.due(16, "the other end is not beside", x.mayHand(0, 1), 0);
    }

    private static void mayHandByASideAlone() {
        PeopleLands x = Check.mapped("...", "...", "...");
        Check.draw(x, true, "00.", ".1.", "...");
        Check.due(16, "by a corner", x.mayHand(0, 1), 0);
        Check.due(16, "by a side", x.mayHand(1, 1), 1);
        Check.draw(x, true, ".00", "1..", "...");
        Check.due(16, "not around the row's end", x.mayHand(2, 1), 0);
        Check.draw(x, true, ".1.", "...", "00.");
        Check.due(16, "not around the column's end", x.mayHand(7, 1), 0);
        Check.draw(x, true, "...", "1..", "00.");
        Check.due(16, "from below", x.mayHand(6, 1), 1);
        Check.due(16, "to a land that has none", x.mayHand(6, 5), 0);
        x.box(true, 0, 8, 0);
        for (int cell = 0; cell < 9; cell++) {
            Check.due(16, "all of it is one land's", x.mayHand(cell, 1), 0);
            Check.due(16, "to its own", x.mayHand(cell, 0), 0);
        }
        x.box(true, 0, 8, 6);
        for (int cell = 0; cell < 9; cell++) {
            Check.due(16, "all of it is the sea's", x.mayHand(cell, 0), 0);
            Check.due(17, "all of it is the sea's", x.hand(cell, 0), STATE);
        }
    }

    private static void handAtTheEdges() {
        PeopleLands x = Scene.full().make();
        Check.due(17, "the last cell to the last but one", x.hand(35, 4), 5);
        Check.due(17, "the last cell back", x.hand(35, 5), 4);
        Check.due(17, "the first cell", x.hand(0, 1), 0);
        Check.due(17, "the first cell back", x.hand(0, 0), 1);
        Check.isDrawn(17, "as ahead of it", x, true, ROWS);
        Check.isDrawn(17, "the map stays", x, false, "012345", "012345", "012345", "012345", "012345", "012345");
    }

    private static void chainOneOff() {
        PeopleLands x = Check.mapped("0011", "....");
        x.trace();
        Check.heads(x, 1, 1);
        Check.isChain("as due", x);
        Check.heads(x, 1, 3);
        Check.isChain("one more, one less", x, 0, 1);
        Check.heads(x, 3, 1);
        Check.isChain("one less, one more", x, 1, 0);
        Check.heads(x, 0, 1);
        Check.isChain("two more, two less", x, 0, 1);
        x.hand(1, 1);
        Check.isChain("one more, but it is its last", x);
        Check.due(20, "its last stays", x.pass(), STATE);
    }

    private static void chainWithoutAnEnd() {
        PeopleLands x = Check.mapped("01", "..");
        Check.heads(x, 1, 1);
        Check.draw(x, true, "00", "11");
        Check.isChain("both have more", x);
        Check.draw(x, true, "..", "..");
        Check.isChain("both have less", x);
        Check.draw(x, true, "00", "..");
        Check.isChain("the one that has less has no cell", x);
        x = Check.mapped("00", "11");
        x.trace();
        Check.isChain("nobody is due any", x);
    }

    private static void chainShortestAndLongest() {
        PeopleLands x = Check.mapped("012345", "012345");
        x.trace();
        Check.heads(x, 4, 2, 2, 2, 2, 0);
        Check.isChain("all six, the last one first", x, 5, 4, 3, 2, 1, 0);
        Check.heads(x, 0, 2, 2, 2, 2, 4);
        Check.isChain("all six", x, 0, 1, 2, 3, 4, 5);
        Check.heads(x, 0, 2, 2, 2, 4, 2);
        Check.isChain("five", x, 0, 1, 2, 3, 4);
        Check.heads(x, 2, 2, 2, 2, 4, 0);
        Check.isChain("two", x, 5, 4);
    }

    /** No chain() is asked ahead of it: what is told is the chain as it stands. */
    private static void linkAskedFirst() {
        PeopleLands x = Check.mapped("001122", "001122");
        x.trace();
        Check.due(19, "nobody: link(0)", x.link(0), NONE);
        Check.heads(x, 1, 2, 3);
        Check.due(19, "link(0) of three", x.link(0), 0);
        Check.heads(x, 3, 2, 1);
        Check.due(19, "link(0) of three the other way", x.link(0), 2);
        Check.due(19, "link(2) of three", x.link(2), 0);
        Check.due(19, "link(3) of three", x.link(3), NONE);
        x.way(1);
        Check.heads(x, 1, 1, 1);
        Check.due(19, "as due: link(0)", x.link(0), NONE);
        x.give(true, 4, 1);
        Check.due(19, "one cell more: link(0)", x.link(0), 1);
        x.give(false, 0, 6);
        Check.due(19, "one cell less in the map, due 4 4 3: link(0)", x.link(0), NONE);
    }

    private static void passShortestAndLongest() {
        PeopleLands x = Check.mapped("012345", "012345");
        x.trace();
        Check.heads(x, 0, 2, 2, 2, 2, 4);
        Check.due(20, "all six: five handed", x.pass(), 5);
        Check.isDrawn(20, "each its least cell that it may then", x, true, "113355", "022445");
        Check.heads(x, 1, 2, 2, 2, 2, 3);
        Check.due(20, "all have theirs", x.pass(), STATE);
        x = Check.mapped("0011", "....");
        x.trace();
        Check.heads(x, 1, 3);
        Check.due(20, "two: one handed", x.pass(), 1);
        Check.isDrawn(20, "one handed", x, true, "0111", "....");
        Check.due(20, "all have theirs", x.pass(), STATE);
    }

    private static void settleAtItsEnds() {
        PeopleLands x = Check.mapped("0011", "....");
        x.trace();
        Check.heads(x, 1, 3);
        Check.due(21, "one chain", x.settle(), 1);
        Check.due(21, "none is left", x.settle(), 0);
        x = Check.mapped("00", "11");
        Check.heads(x, 1, 1);
        Check.due(21, "nothing is drawn", x.settle(), 0);
        Check.draw(x, true, "00", "00");
        Check.due(21, "the one that has less has no cell", x.settle(), 0);
        x = Check.mapped("0012", "..1.");
        x.trace();
        Check.heads(x, 1, 2, 2);
        Check.due(21, "one that never ends: 40", x.settle(), 40);
        Check.due(21, "40 once more", x.settle(), 40);
        Check.isDrawn(21, "an even number of times", x, true, "0012", "..1.");
    }
}
