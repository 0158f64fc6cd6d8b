/** Promises 16 to 21: cells handed on from land to land, one by one and along the chain. */
public final class HandingTest {
    public static void main(String[] args) {
        mayHand();
        hand();
        chainAndLink();
        chainOfLikeOnes();
        chainThatIsShortest();
        pass();
        passThatEnds();
        settle();
        settleFortyTimes();
        Check.end("HandingTest");
    }

    private static void mayHand() {
        PeopleLands x = Check.mapped("....", "....", "....");
        Check.draw(x, true, "0012", "0.12", "0333");
        Check.due(16, "an end, beside it", x.mayHand(1, 1), 1);
        Check.due(16, "not beside it", x.mayHand(0, 1), 0);
        Check.due(16, "not beside that one", x.mayHand(1, 3), 0);
        Check.due(16, "to its own", x.mayHand(0, 0), 0);
        Check.due(16, "of the sea", x.mayHand(5, 1), 0);
        Check.due(16, "would be cut in two", x.mayHand(10, 1), 0);
        Check.due(16, "an end", x.mayHand(11, 2), 1);
        Check.due(16, "an end", x.mayHand(8, 3), 1);
        Check.due(16, "to a land without cells", x.mayHand(0, 5), 0);
        Check.draw(x, true, "000.", "....", "...1");
        Check.due(16, "an end, to its own", x.mayHand(0, 0), 0);
        Check.due(16, "of a wide sea", x.mayHand(7, 1), 0);
        Check.due(16, "of a wide sea", x.mayHand(3, 0), 0);
        Check.draw(x, true, "1000", "0.0.", "0001");
        Check.due(16, "its only cell of two parts", x.mayHand(0, 0), 1);
        Check.due(16, "an end of the long one", x.mayHand(3, 1), 0);
        Check.due(16, "beside, an end", x.mayHand(4, 1), 1);
        Check.draw(x, true, "1000", "..0.", "000.");
        Check.due(16, "beside, in the middle of it", x.mayHand(1, 1), 1);
        Check.due(16, "the last one of its land", x.mayHand(0, 0), 0);
        Check.draw(x, true, "0011", "....", "0011");
        Check.due(16, "two parts stay two", x.mayHand(1, 1), 1);
        Check.draw(x, true, "0001", ".1..", "0..0");
        Check.due(16, "cut, two parts more", x.mayHand(1, 1), 0);
        for (int n : Check.WILD) {
            if (n != 6 && n != 7) {
                Check.due(16, "mayHand(" + n + ", 0)", x.mayHand(n, 0), PeopleLands.UNKNOWN);
            }
            Check.due(16, "mayHand(0, " + n + ")", x.mayHand(0, n), PeopleLands.UNKNOWN);
        }
        Check.due(16, "mayHand(12, 0)", x.mayHand(12, 0), PeopleLands.UNKNOWN);
        Check.isDrawn(16, "nothing is changed", x, true, "0001", ".1..", "0..0");
    }

    private static void hand() {
        PeopleLands x = Check.mapped("...", "...");
        Check.draw(x, true, "001", "0.1");
        Check.due(17, "hand(1, 1)", x.hand(1, 1), 0);
        Check.isDrawn(17, "handed", x, true, "011", "0.1");
        Check.due(17, "would be cut in two", x.hand(2, 0), PeopleLands.STATE);
        Check.due(17, "back again", x.hand(1, 0), 1);
        Check.due(17, "of the sea", x.hand(4, 0), PeopleLands.STATE);
        Check.due(17, "to its own", x.hand(0, 0), PeopleLands.STATE);
        for (int n : Check.WILD) {
            Check.due(17, "hand(" + n + ", 0)", x.hand(n, 0), PeopleLands.UNKNOWN);
            Check.due(17, "hand(0, " + n + ")", x.hand(0, n), PeopleLands.UNKNOWN);
        }
        Check.isDrawn(17, "refused", x, true, "001", "0.1");
        Check.isDrawn(17, "the map stays", x, false, "...", "...");
    }

    private static void chainAndLink() {
        PeopleLands x = new PeopleLands();
        Check.isChain("none", x);
        x = Check.mapped("001122", "001122");
        x.trace();
        Check.heads(x, 1, 1, 1);
        Check.isChain("as due", x);
        Check.heads(x, 1, 2, 3);
        Check.isChain("more to less by way of one as due", x, 0, 1, 2);
        Check.heads(x, 3, 2, 1);
        Check.isChain("the other way", x, 2, 1, 0);
        Check.heads(x, 2, 4, 0);
        Check.isChain("one that has less is nearer", x, 2, 1);
        Check.heads(x, 1, 4, 1);
        Check.isChain("of like long ones the first", x, 0, 1);
        Check.heads(x, 4, 1, 1);
        Check.isChain("one that has more is nearer", x, 1, 0);
        Check.heads(x, 1, 1, 0, 1);
        Check.isChain("none hands to a land without cells", x);
        Check.draw(x, true, "00.122", "00.122");
        Check.heads(x, 1, 1, 4);
        Check.isChain("over no sea, from one as due", x);
        Check.draw(x, true, "000122", "00..22");
        Check.heads(x, 2, 1, 9);
        Check.isChain("a single cell can not be handed on", x);
        Check.due(19, "link(largest)", x.link(Integer.MAX_VALUE), PeopleLands.NONE);
        Check.due(19, "link(least)", x.link(Integer.MIN_VALUE), PeopleLands.NONE);
        x = Check.mapped("012345", "012345");
        x.trace();
        Check.heads(x, 0, 2, 2, 2, 2, 4);
        Check.isChain("all of the lands", x, 0, 1, 2, 3, 4, 5);
        x.hand(0, 1);
        Check.isChain("told of what stands now", x, 1, 2, 3, 4, 5);
        x.hand(7, 2);
        Check.isChain("told of what stands now", x, 2, 3, 4, 5);
        x = Check.mapped("0000", "1123");
        x.trace();
        Check.heads(x, 100, 80, 30, 20);
        Check.isChain("due 3 3 1 1", x, 0, 1);
        x.way(1);
        Check.isChain("by the way due 4 3 1 0, but the one that has more has one cell", x);
    }

    private static void chainOfLikeOnes() {
        PeopleLands x = Check.mapped("000", "123", "444");
        x.field(3, 4);
        Check.draw(x, false, "000", "123", "123", "444");
        x.trace();
        Check.heads(x, 1, 2, 2, 2, 5);
        Check.isChain("of three ways the first by lands", x, 0, 1, 4);
        x.give(true, 3, 6);
        x.give(false, 3, 6);
        Check.heads(x, 1, 1, 2, 2, 5);
        Check.isChain("0 would be cut by what 2 gets", x, 0, 3, 4);
        Check.heads(x, 5, 1, 2, 2, 1);
        Check.isChain("the way back", x, 4, 3, 0);
        x = Check.mapped("0033", "1122", "1122");
        x.trace();
        Check.heads(x, 1, 4, 4, 3);
        Check.isChain("of two that have less the one beside", x, 0, 3);
        Check.heads(x, 1, 5, 4, 2);
        Check.isChain("from the one beside", x, 0, 1);
        Check.heads(x, 2, 5, 4, 1);
        Check.isChain("of two ways over the least land", x, 3, 0, 1);
    }

    private static void chainThatIsShortest() {
        PeopleLands x = Check.mapped("011223", "011223");
        x.trace();
        Check.heads(x, 1, 4, 6, 1);
        Check.isChain("0 has more too, but its chain is longer", x, 3, 2);
        Check.heads(x, 1, 6, 4, 1);
        Check.isChain("3 has more too, but its chain is longer", x, 0, 1);
        Check.heads(x, 1, 5, 5, 1);
        Check.isChain("two as short: the first", x, 0, 1);
        Check.heads(x, 3, 4, 2, 3);
        Check.isChain("0 has less too, but the way there is longer", x, 2, 3);
        Check.heads(x, 3, 3, 3, 3);
        Check.isChain("two as short: the first by the one that hands", x, 1, 0);
        x = Check.mapped("221100", "221133");
        x.trace();
        Check.heads(x, 3, 1, 5, 3);
        Check.isChain("three as short, of one that hands: the least that gets", x, 1, 0);
        Check.heads(x, 2, 2, 5, 3);
        Check.isChain("two of them: the least that gets", x, 1, 2);
        x = Check.mapped("003112", "003112");
        x.trace();
        Check.heads(x, 1, 1, 1, 1);
        Check.isChain("the first by the one that hands, not by the one that gets", x, 0, 3);
        x = Check.mapped("001122", "001122");
        x.trace();
        Check.heads(x, 3, 8, 1);
        Check.isChain("2 has three more than it is due, but 0 is the first", x, 0, 1);
        Check.heads(x, 5, 1, 6);
        Check.isChain("2 has two less than it is due, but 0 is the first", x, 1, 0);
        x = Check.mapped("4433", "1122", "1122", "0000");
        x.trace();
        Check.heads(x, 2, 4, 4, 3, 3);
        Check.isChain("one by one: 0 1 4 comes ahead of 0 2 3", x, 0, 1, 4);
    }

    private static void pass() {
        PeopleLands x = new PeopleLands();
        Check.due(20, "none", x.pass(), PeopleLands.STATE);
        x = Check.mapped("001122", "001122");
        x.trace();
        Check.heads(x, 1, 2, 3);
        Check.due(20, "two handed", x.pass(), 2);
        Check.isDrawn(20, "the last but one first, each its least cell", x, true, "011222", "001122");
        Check.isDrawn(20, "the map stays", x, false, "001122", "001122");
        Check.due(20, "again", x.pass(), 2);
        Check.isDrawn(20, "again", x, true, "111222", "001222");
        Check.due(20, "none", x.pass(), PeopleLands.STATE);
        Check.isDrawn(20, "refused", x, true, "111222", "001222");
    }

    private static void passThatEnds() {
        PeopleLands x = Check.mapped("0012", "..1.");
        x.trace();
        Check.heads(x, 1, 2, 2);
        Check.isChain("1 is beside 0 by the cell that it hands on", x, 0, 1, 2);
        Check.due(20, "the one handed", x.pass(), 1);
        Check.isDrawn(20, "it ended there", x, true, "0022", "..1.");
        Check.isChain("now 2 is beside 0", x, 0, 2, 1);
        Check.due(20, "the one handed back", x.pass(), 1);
        Check.isDrawn(20, "it ended there", x, true, "0012", "..1.");
        x = Check.mapped("330012", "....1.");
        x.trace();
        Check.heads(x, 2, 2, 2, 1);
        Check.isChain("1 is beside 0 by the cell that it hands on", x, 3, 0, 1, 2);
        Check.due(20, "0 may not, and 3 is asked no more", x.pass(), 1);
        Check.isDrawn(20, "it ended there", x, true, "330022", "....1.");
        Check.due(20, "3 might have", x.mayHand(1, 0), 1);
    }

    private static void settle() {
        PeopleLands x = new PeopleLands();
        Check.due(21, "none", x.settle(), 0);
        x = Check.mapped("001122", "001122");
        x.trace();
        Check.heads(x, 1, 2, 3);
        Check.due(21, "two chains", x.settle(), 2);
        Check.isDrawn(21, "settled", x, true, "111222", "001222");
        Check.due(21, "all have theirs", x.settle(), 0);
        Check.due(18, "none is left", x.chain(), PeopleLands.NONE);
        x = Check.mapped("000000", "000000", "000000", "000000", "000000", "11....");
        x.trace();
        Check.heads(x, 1, 15);
        Check.due(21, "many one by one", x.settle(), 28);
        Check.due(21, "all have theirs", x.cells(true, 1), 30);
        Check.due(21, "in one piece", x.parts(1), 1);
        Check.due(21, "in one piece", x.parts(0), 1);
        x = Check.mapped("000000", "000000", "000000", "000000", "000000", "000001");
        x.trace();
        Check.heads(x, 0, 1);
        Check.due(21, "till one cell is left", x.settle(), 34);
        Check.due(21, "its last one stays", x.cells(true, 0), 1);
    }

    /** A chain whose pass ends half way and one that undoes it, by turns for ever. */
    private static void settleFortyTimes() {
        PeopleLands x = Check.mapped("0012", "..1.");
        x.trace();
        Check.heads(x, 1, 2, 2);
        Check.due(21, "forty at most", x.settle(), 40);
        Check.isDrawn(21, "after forty", x, true, "0012", "..1.");
        x.pass();
        Check.due(21, "forty at most", x.settle(), 40);
        Check.isDrawn(21, "after forty", x, true, "0022", "..1.");
    }
}
