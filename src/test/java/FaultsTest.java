/** Promises 11 to 15: parts, neighbours, faults, and the change that mends most. */
public final class FaultsTest {
    public static void main(String[] args) {
        parts();
        beside();
        faults();
        would();
        mend();
        mendOfLikeOnes();
        mendsMost();
        Check.end("FaultsTest");
    }

    private static void parts() {
        PeopleLands x = Check.mapped("0000", "0000", "0000");
        Check.due(11, "the map has no say", x.parts(0), 0);
        Check.draw(x, true, "0110", "1001", "1102");
        Check.due(11, "by sides, not by corners", x.parts(0), 3);
        Check.due(11, "not around the edge", x.parts(1), 3);
        Check.due(11, "one cell", x.parts(2), 1);
        Check.due(11, "none", x.parts(3), 0);
        Check.draw(x, true, "...0", "0...", "....");
        Check.due(11, "a row's end, the next one's begin", x.parts(0), 2);
        for (int n : Check.WILD) {
            Check.due(11, "parts(" + n + ")", x.parts(n), PeopleLands.UNKNOWN);
        }
        x.field(6, 6);
        Check.draw(x, true, "000000", ".....0", "0000.0", "0..0.0", "0....0", "000000");
        Check.due(11, "one long piece", x.parts(0), 1);
        Check.draw(x, true, "0.0.0.", ".0.0.0", "0.0.0.", ".0.0.0", "0.0.0.", ".0.0.0");
        Check.due(11, "a board of chess", x.parts(0), 18);
    }

    private static void beside() {
        PeopleLands x = Check.mapped("01.2", "..3.", "4..5");
        Check.draw(x, true, "0.1.", "2345", "....");
        int[][] mapped = {{0, 1}};
        int[][] drawn = {{0, 2}, {1, 4}, {2, 3}, {3, 4}, {4, 5}};
        for (int a = 0; a < 6; a++) {
            for (int b = 0; b < 6; b++) {
                Check.due(12, "beside(false, " + a + ", " + b + ")", x.beside(false, a, b), besideIn(mapped, a, b));
                Check.due(12, "beside(true, " + a + ", " + b + ")", x.beside(true, a, b), besideIn(drawn, a, b));
            }
        }
        for (int n : Check.WILD) {
            Check.due(12, "beside(true, " + n + ", 0)", x.beside(true, n, 0), PeopleLands.UNKNOWN);
            Check.due(12, "beside(false, 0, " + n + ")", x.beside(false, 0, n), PeopleLands.UNKNOWN);
            Check.due(12, "beside(true, " + n + ", it)", x.beside(true, n, n), PeopleLands.UNKNOWN);
        }
    }

    private static int besideIn(int[][] pairs, int a, int b) {
        if (a == b) {
            return PeopleLands.STATE;
        }
        for (int[] pair : pairs) {
            if (pair[0] == Math.min(a, b) && pair[1] == Math.max(a, b)) {
                return 1;
            }
        }
        return 0;
    }

    private static void faults() {
        PeopleLands x = new PeopleLands();
        Check.due(13, "nothing", x.faults(), 0);
        x = Check.mapped("0011", "0011");
        Check.due(13, "nobody, nothing drawn: a pair is missing", x.faults(), 2);
        Check.heads(x, 1, 1);
        Check.due(13, "less than due", x.faults(), 4 + 4 + 2);
        x.trace();
        Check.due(13, "none", x.faults(), 0);
        Check.heads(x, 3, 1);
        Check.due(13, "two more, two less", x.faults(), 4);
        Check.heads(x, 1, 1);
        Check.draw(x, true, "0101", "0101");
        Check.due(13, "a part more of each", x.faults(), 6);
        Check.draw(x, true, "0.01", "01.1");
        Check.due(13, "a part and a cell", x.faults(), 1 + 1 + 3 + 3);
        Check.draw(x, true, "0022", "1133");
        Check.due(13, "pairs that are not in the map", x.faults(), 2 + 2 + 2 + 2 + 3);
        Check.draw(x, true, "0.1.", ".0.1");
        Check.due(13, "a pair less", x.faults(), 2 + 2 + 3 + 3 + 2);
        Check.draw(x, true, "0.0.", ".0.0");
        Check.due(13, "three parts more than one", x.faults(), 0 + 4 + 9 + 2);
        x.way(1);
        Check.heads(x, 5, 2, 1);
        Check.due(13, "by the way: 6 2 0", x.faults(), 2 + 2 + 9 + 2);
    }

    private static void would() {
        PeopleLands x = Check.mapped("001", "001");
        Check.heads(x, 1, 1);
        Check.draw(x, true, "00.", "0.2");
        Check.due(14, "to its own", x.would(0, 0), PeopleLands.STATE);
        Check.due(14, "of none to none", x.would(2, 6), PeopleLands.STATE);
        Check.due(14, "to a land far off", x.would(0, 2), PeopleLands.STATE);
        Check.due(14, "of a land to one that has none", x.would(0, 1), PeopleLands.STATE);
        Check.due(14, "of none to one that is not beside", x.would(2, 3), 0 + 4 + 1 + 2 + 1 + 1);
        Check.due(14, "of none to the one beside", x.would(2, 0), 1 + 3 + 1 + 2 + 1);
        Check.due(14, "of none to a land that has none", x.would(2, 1), 0 + 2 + 1 + 1);
        Check.due(14, "to none", x.would(5, 6), 0 + 3 + 2);
        Check.due(14, "to none, in two parts", x.would(0, 6), 1 + 3 + 3 + 1 + 2);
        Check.isDrawn(14, "nothing is changed", x, true, "00.", "0.2");
        x.give(true, 4, 2);
        Check.due(14, "of a land to the one beside", x.would(4, 0), 1 + 3 + 1 + 2 + 1);
        Check.due(14, "of a land to the one beside", x.would(1, 2), 1 + 3 + 3 + 2 + 1);
        Check.due(14, "by a corner alone", x.would(0, 2), PeopleLands.STATE);
        for (int n : Check.WILD) {
            Check.due(14, "would(" + n + ", 0)", x.would(n, 0), PeopleLands.UNKNOWN);
            if (n != 6) {
                Check.due(14, "would(0, " + n + ")", x.would(0, n), PeopleLands.UNKNOWN);
            }
        }
        Check.isDrawn(14, "nothing is changed", x, true, "00.", "022");
    }

    private static void mend() {
        PeopleLands x = new PeopleLands();
        Check.due(15, "nothing to mend", x.mend(), PeopleLands.NONE);
        x = Check.mapped("0011", "0011");
        Check.heads(x, 3, 1);
        x.trace();
        Check.due(15, "the least cell beside", x.mend(), 20);
        Check.isDrawn(15, "mended", x, true, "0001", "0011");
        Check.due(15, "the next", x.mend(), 30);
        Check.due(15, "no fewer", x.mend(), PeopleLands.NONE);
        Check.isDrawn(15, "mended", x, true, "0000", "0011");
        Check.isDrawn(15, "the map stays", x, false, "0011", "0011");
        x = Check.mapped("0..", "...", "...");
        Check.heads(x, 0, 0, 1);
        Check.draw(x, true, "...", "...", "..2");
        Check.due(15, "as due, no fewer", x.mend(), PeopleLands.NONE);
        x.give(true, 8, 5);
        Check.due(15, "to none, or a cell to the one due: the least cell", x.mend(), 2);
        Check.due(15, "to none", x.mend(), 86);
        Check.due(15, "no fewer", x.mend(), PeopleLands.NONE);
        x = Check.mapped("01", "01");
        Check.heads(x, 1, 1);
        Check.draw(x, true, "10", "01");
        Check.due(15, "parts weigh three each", x.faults(), 6);
        Check.due(15, "two parts become one, one cell off each", x.mend(), 0);
        Check.due(15, "and that mends the rest", x.faults(), 2);
    }

    private static void mendOfLikeOnes() {
        PeopleLands x = Check.mapped("00", "00");
        Check.heads(x, 0, 1, 1, 1, 1);
        Check.due(15, "of like ones the least land", x.mend(), 1);
        Check.due(15, "a pair is not in the map: as many as ahead, so far off", x.mend(), 32);
        Check.due(15, "all others touch: no fewer", x.mend(), PeopleLands.NONE);
        x = Check.mapped("000", "000");
        x.trace();
        Check.due(15, "nobody: cells go to none, the least first", x.mend(), 6);
        Check.due(15, "then the next", x.mend(), 16);
        x = Check.mapped("1.", "..");
        Check.heads(x, 0, 0, 1);
        x.trace();
        Check.due(15, "0 to none is as good as 3 to land 2", x.would(0, 6), 1);
        Check.due(15, "0 to none is as good as 3 to land 2", x.would(3, 2), 1);
        Check.due(15, "of like ones the least cell, whoever gets it", x.mend(), 6);
        Check.due(15, "now the least cell to the one due", x.mend(), 2);
        Check.due(15, "no fewer", x.mend(), PeopleLands.NONE);
        x = Check.mapped("12", "..");
        Check.heads(x, 0, 0, 0, 1, 1);
        Check.due(15, "of the least cell the least land", x.mend(), 3);
    }

    /** A change that mends little comes first by cells, one that mends more comes later. */
    private static void mendsMost() {
        PeopleLands x = Check.mapped("...", "111", "...");
        Check.heads(x, 0, 1);
        Check.draw(x, true, "0..", "...", "1.1");
        Check.due(15, "one that is due none, two parts, one cell off", x.faults(), 1 + 3 + 1);
        Check.due(15, "to none: one fewer", x.would(0, 6), 4);
        Check.due(15, "the parts become one: four fewer", x.would(7, 1), 1);
        Check.due(15, "that by which they are fewest", x.mend(), 71);
        Check.due(15, "then the other one", x.mend(), 6);
        Check.due(15, "no faults", x.faults(), 0);
        Check.due(15, "no fewer", x.mend(), PeopleLands.NONE);
    }
}
