/**
 * Promises 23 to 31 at their edges: none and all carried, tiles of empty and of full maps, 0 and
 * 999 votes, like ones that win nothing, one vote or one cell that decides.
 */
public final class VotesEdgesTest {
    private static final int NONE = PeopleLands.NONE, STATE = PeopleLands.STATE;

    public static void main(String[] args) {
        carriedAsMany();
        carriedOverWhateverIsThere();
        carriedEmptyAndFull();
        tilesOfNoLand();
        tilesOfOneLand();
        tilesWithoutRoom();
        tilesOfLikeCells();
        tilesAskedFirst();
        keptBySidesAlone();
        votesFirstAndLast();
        wonByOneVote();
        hasNoneAndAll();
        hasOfWonLandsAlone();
        aheadByOne();
        aheadOfLikeOnes();
        turnByOneVote();
        turnByAllVotes();
        turnTakesMoreThanAsMany();
        turnByLandsWithCells();
        turnToTheThird();
        Check.end("VotesEdgesTest");
    }

    private static void carriedAsMany() {
        PeopleLands x = Check.mapped("00.", "...");
        Check.due(23, "two and none", x.carried(0), STATE);
        x.give(true, 5, 0);
        Check.due(23, "two and one", x.carried(0), STATE);
        x.give(true, 4, 0);
        Check.due(23, "two and two", x.carried(0), 4);
        x.give(true, 3, 0);
        Check.due(23, "two and three", x.carried(0), STATE);
        x.give(false, 0, 6);
        x.give(false, 1, 6);
        Check.due(23, "none and three", x.carried(0), STATE);
        x.box(true, 0, 5, 6);
        Check.due(23, "none and none", x.carried(0), 0);
    }

    private static void carriedOverWhateverIsThere() {
        PeopleLands x = Check.mapped("0..", "111", "...");
        Check.draw(x, true, "...", "111", "0..");
        Check.due(23, "straight over another land", x.carried(0), 2);
        Check.due(23, "that stays", x.carried(1), 0);
        x = Check.mapped("0.", "..");
        x.give(true, 3, 0);
        Check.due(23, "no step goes by a corner", x.carried(0), 2);
        x = Check.mapped("000000", "......");
        Check.draw(x, true, "......", "000000");
        Check.due(23, "each by one", x.carried(0), 6);
        x = Check.mapped("0.....", "......");
        x.give(true, 5, 0);
        Check.due(23, "not around the row's end", x.carried(0), 5);
        x.field(2, 6);
        x.give(false, 0, 0);
        x.give(true, 10, 0);
        Check.due(23, "not around the column's end", x.carried(0), 5);
        x = Check.mapped("..0", "...", "..0");
        Check.draw(x, true, ".0.", "0..", "...");
        Check.due(23, "the last cell to the last one, 1 and 3, not 3 and 3", x.carried(0), 4);
    }

    private static void carriedEmptyAndFull() {
        PeopleLands x = Scene.empty(6, 6).make();
        x.box(false, 0, 35, 5);
        x.box(true, 0, 35, 5);
        Check.due(23, "all of it", x.carried(5), 0);
        x.give(true, 0, 6);
        Check.due(23, "all but one", x.carried(5), STATE);
        x.give(false, 35, 6);
        Check.due(23, "all but one each: the gap goes from corner to corner", x.carried(5), 10);
        PeopleLands full = Scene.full().make();
        for (int land = 0; land < 6; land++) {
            Check.due(23, "a column becomes a row", full.carried(land), columnToRow(land));
        }
    }

    /** From column to row of the same number: by the cell that both have, each other one is carried there and on. */
    private static int columnToRow(int land) {
        int sum = 0;
        for (int i = 0; i < 6; i++) {
            sum += 2 * Math.abs(i - land);
        }
        return sum;
    }

    private static void tilesOfNoLand() {
        PeopleLands x = Scene.empty(6, 6).make();
        areTiled("empty", x, 0, 0, NONE, NONE, NONE, NONE, NONE, NONE);
        x.box(true, 0, 35, 0);
        areTiled("cells in the drawing alone", x, 0, 0, NONE, NONE, NONE, NONE, NONE, NONE);
    }

    private static void tilesOfOneLand() {
        PeopleLands x = Scene.empty(6, 6).make();
        for (int cell : new int[] {0, 5, 14, 30, 35}) {
            x.box(false, 0, 35, 6);
            x.give(false, cell, 5);
            areTiled("one cell alone", x, 0, 0, NONE, NONE, NONE, NONE, NONE, cell);
        }
        x = Check.mapped("00", "00");
        areTiled("all of the smallest: of four like ones the least", x, 8, 0, 0, NONE, NONE, NONE, NONE, NONE);
        x = Check.mapped("000", "000", "000");
        areTiled("in the very middle", x, 0, 0, 4, NONE, NONE, NONE, NONE, NONE);
        x = Check.mapped("0..", "...", "..0");
        areTiled("a cell that is not its own", x, 0, 0, 4, NONE, NONE, NONE, NONE, NONE);
    }

    private static void tilesWithoutRoom() {
        areTiled("four on four", Check.mapped("35", "10"), 0, 4, 3, 2, NONE, 0, NONE, 1);
        areTiled("six on six", Check.mapped("54", "32", "10"), 0, 7, 5, 4, 3, 2, 1, 0);
        areTiled("four on four, two of them the same middle",
                Check.mapped("01", "10"), 4, 1, 0, 1, NONE, NONE, NONE, NONE);
        areTiled("both are best at 3 and beside it: the last cell is the later one's",
                Check.mapped(".1", "02", "12"), 2, 2, 2, 3, 5, NONE, NONE, NONE);
        PeopleLands x = Scene.full().make();
        areTiled("six columns: off by half a cell", x, 6 * 9, 5, 12, 13, 14, 15, 16, 17);
    }

    private static void tilesOfLikeCells() {
        areTiled("between two: the least", Check.mapped("...", ".00"), 1, 0, 4, NONE, NONE, NONE, NONE, NONE);
        areTiled("between two, the other's own", Check.mapped("0.0", ".1."), 0, 0, 1, 4, NONE, NONE, NONE, NONE);
        areTiled("both would have cell 1: the later one gives way by as much",
                Check.mapped("0.0", "1.1"), 0, 1, 1, 4, NONE, NONE, NONE, NONE);
    }

    /** Neither off() nor another tile is asked ahead of it, and the map ahead of it was another one. */
    private static void tilesAskedFirst() {
        PeopleLands x = Check.mapped("010", "1.1", "010");
        Check.due(25, "both are best at 4: tile(1)", x.tile(1), 4);
        Check.due(25, "both are best at 4: tile(0)", x.tile(0), 1);
        Check.due(24, "one is off by a cell, four times", x.off(), 16);
        x.box(false, 0, 8, 6);
        Check.due(25, "no cells any more", x.tile(1), NONE);
        x.give(false, 4, 3);
        Check.due(25, "4 is its own", x.tile(3), 4);
        Check.due(24, "4 is its own", x.off(), 0);
        x.give(false, 5, 1);
        Check.due(26, "one pair", x.kept(), 1);
        Check.due(25, "5 is its own", x.tile(1), 5);
    }

    private static void keptBySidesAlone() {
        Check.due(26, "no pair", Check.mapped("0.", ".1").kept(), 0);
        Check.due(26, "one pair", Check.mapped("01", "..").kept(), 1);
        Check.due(26, "all four of the smallest: not by corners", Check.mapped("01", "23").kept(), 4);
        Check.due(26, "a row's end and the next one's begin", Check.mapped("..0", "1..").kept(), 0);
        Check.due(26, "neighbours whose tiles are apart", Check.mapped("0.1", "0.1", "001").kept(), 0);
    }

    private static void areTiled(String when, PeopleLands x, int sum, int kept, int... tiles) {
        Check.isTiled(when, x, sum, tiles);
        Check.due(26, when + ": kept()", x.kept(), kept);
    }

    private static void votesFirstAndLast() {
        PeopleLands x = new PeopleLands();
        for (int land = 0; land < 6; land++) {
            for (int side = 0; side < 3; side++) {
                String whose = land + ", " + side;
                Check.due(27, "votes(" + whose + ", 999)", x.votes(land, side, 999), 0);
                Check.due(27, "votes(" + whose + ", 1000)", x.votes(land, side, 1000), PeopleLands.BAD);
                Check.due(27, "votes(" + whose + ", -1)", x.votes(land, side, -1), PeopleLands.BAD);
                Check.due(27, "votes(" + whose + ", 998)", x.votes(land, side, 998), 999);
                Check.due(27, "votes(" + whose + ", 999)", x.votes(land, side, 999), 998);
            }
        }
        for (int side = 0; side < 3; side++) {
            Check.due(29, "the most votes: has(" + side + ", 2)", x.has(side, 2), 5994);
        }
        for (int land = 0; land < 6; land++) {
            for (int side = 0; side < 3; side++) {
                Check.due(27, "votes(" + land + ", " + side + ", 0)", x.votes(land, side, 0), 999);
                Check.due(27, "votes(" + land + ", " + side + ", 0) again", x.votes(land, side, 0), 0);
            }
        }
        Check.due(27, "heads are others", x.count(3), 0);
    }

    private static void wonByOneVote() {
        PeopleLands x = new PeopleLands();
        for (int land = 0; land < 6; land++) {
            isWon(x, land, 0, 0, 0, NONE);
            isWon(x, land, 1, 0, 0, 0);
            isWon(x, land, 0, 1, 0, 1);
            isWon(x, land, 0, 0, 1, 2);
            isWon(x, land, 1, 1, 0, NONE);
            isWon(x, land, 1, 0, 1, NONE);
            isWon(x, land, 0, 1, 1, NONE);
            isWon(x, land, 999, 999, 999, NONE);
            isWon(x, land, 999, 998, 998, 0);
            isWon(x, land, 998, 999, 998, 1);
            isWon(x, land, 998, 998, 999, 2);
            isWon(x, land, 999, 999, 998, NONE);
        }
    }

    private static void isWon(PeopleLands x, int land, int first, int second, int third, int want) {
        Check.votes(x, land, first, second, third);
        Check.due(28, first + " " + second + " " + third + ": won(" + land + ")", x.won(land), want);
    }

    private static void hasNoneAndAll() {
        for (int side = 0; side < 3; side++) {
            PeopleLands x = Scene.empty(6, 6).make();
            x.votes(5, side, 999);
            Check.due(29, "a land without cells, by acres", x.has(side, 0), 0);
            Check.due(29, "a land without cells, by cells", x.has(side, 1), 0);
            Check.due(29, "by heads", x.has(side, 2), 999);
            x.box(false, 0, 35, 5);
            Check.due(29, "all acres", x.has(side, 0), 36);
            Check.due(29, "no cells", x.has(side, 1), 0);
            x.trace();
            x.box(false, 0, 35, 6);
            Check.due(29, "no acres", x.has(side, 0), 0);
            Check.due(29, "all cells", x.has(side, 1), 36);
            Check.due(29, "another side", x.has((side + 1) % 3, 1), 0);
            Check.due(29, "another side", x.has((side + 2) % 3, 2), 0);
        }
    }

    private static void hasOfWonLandsAlone() {
        PeopleLands x = Check.mapped("0000", "1111");
        x.trace();
        Check.votes(x, 0, 999, 998, 0);
        Check.votes(x, 1, 5, 5, 0);
        Check.due(29, "the land that it won", x.has(0, 1), 4);
        Check.due(29, "a like one is not won", x.has(1, 1), 0);
        Check.due(29, "votes of lands not won count by heads", x.has(1, 2), 1003);
        Check.due(29, "votes of all lands", x.has(0, 2), 1004);
        Check.due(29, "heads of a land are not votes", x.heads(0, 999) == 0 ? x.has(2, 2) : 1, 0);
    }

    private static void aheadByOne() {
        PeopleLands x = Check.mapped("001", "012");
        Check.draw(x, true, "001", "112");
        Check.votes(x, 0, 5, 0, 0);
        Check.votes(x, 1, 0, 5, 0);
        Check.votes(x, 2, 0, 0, 11);
        Check.due(30, "3 2 1 by acres", x.ahead(0), 0);
        Check.due(30, "2 3 1 by cells", x.ahead(1), 1);
        Check.due(30, "5 5 11 by heads", x.ahead(2), 2);
        x.give(false, 3, 6);
        Check.due(30, "2 2 1 by acres", x.ahead(0), NONE);
        x.give(true, 4, 6);
        Check.due(30, "2 2 1 by cells", x.ahead(1), NONE);
        x.give(true, 4, 2);
        Check.due(30, "2 2 2 by cells", x.ahead(1), NONE);
        x.votes(2, 2, 5);
        Check.due(30, "5 5 5 by heads", x.ahead(2), NONE);
        x.votes(2, 2, 6);
        Check.due(30, "5 5 6 by heads", x.ahead(2), 2);
    }

    private static void aheadOfLikeOnes() {
        PeopleLands x = new PeopleLands();
        int[][] tallies = {
            {2, 1, 1, 0}, {1, 2, 1, 1}, {1, 1, 2, 2}, {2, 2, 1, NONE}, {2, 1, 2, NONE}, {1, 2, 2, NONE},
            {1, 0, 0, 0}, {0, 1, 0, 1}, {0, 0, 1, 2}, {1, 1, 1, NONE}, {0, 0, 0, NONE},
        };
        for (int[] tally : tallies) {
            x.field(3, 2);
            for (int side = 0; side < 3; side++) {
                x.votes(side, side, tally[side]);
                for (int i = 0; i < tally[side]; i++) {
                    x.give(false, side + 3 * i, side);
                }
            }
            x.trace();
            String when = tally[0] + " " + tally[1] + " " + tally[2];
            for (int by = 0; by < 3; by++) {
                Check.due(30, when + ": ahead(" + by + ")", x.ahead(by), tally[3]);
            }
        }
    }

    private static void turnByOneVote() {
        PeopleLands x = Scene.empty(2, 2).make();
        x.give(true, 3, 5);
        x.votes(5, 0, 1);
        Check.due(31, "its only vote", x.turn(1), 1);
        Check.due(31, "its only vote", x.turn(2), 1);
        Check.due(31, "the one that is ahead", x.turn(0), STATE);
        Check.votes(x, 5, 500, 499, 0);
        Check.due(31, "499 500", x.turn(1), 1);
        Check.votes(x, 5, 500, 498, 0);
        Check.due(31, "498 500, as 499 499 is nobody's", x.turn(1), 2);
        x.votes(5, 0, 498);
        Check.due(31, "none is ahead", x.turn(1), STATE);
        Check.due(31, "nothing has gone", x.votes(5, 1, 0), 498);
    }

    private static void turnByAllVotes() {
        PeopleLands x = Scene.empty(6, 6).make();
        x.box(true, 0, 35, 5);
        Check.votes(x, 5, 999, 0, 998);
        Check.due(31, "all votes of a land", x.turn(1), 999);
        Check.votes(x, 5, 999, 0, 0);
        Check.due(31, "half of them and one", x.turn(1), 500);
        Check.votes(x, 5, 999, 998, 998);
        Check.due(31, "beyond 999: 998 999 998", x.turn(1), 1);
        x = Scene.full().make();
        for (int land = 0; land < 6; land++) {
            Check.votes(x, land, 999, 0, 998);
        }
        Check.due(31, "one land its own by 999, five nobody's by one each: 0 6 0", x.turn(1), 999 + 5);
        Check.due(31, "one vote in each of four lands", x.turn(2), 4);
    }

    private static void turnTakesMoreThanAsMany() {
        PeopleLands x = Check.mapped("....", "....");
        Check.draw(x, true, "0011", "2333");
        Check.votes(x, 0, 9, 0, 0);
        Check.votes(x, 1, 5, 0, 0);
        Check.votes(x, 2, 0, 1, 0);
        Check.votes(x, 3, 0, 0, 1);
        Check.due(31, "4 1 3: land 1 makes it 2 3 3, both 0 5 3", x.turn(1), 3 + 5);
        Check.votes(x, 3, 0, 0, 0);
        Check.due(31, "4 1 0: land 1 makes it 2 3 0", x.turn(1), 3);
        Check.votes(x, 2, 0, 0, 0);
        Check.due(31, "4 0 0: land 1 makes it 2 2 0, land 0 nobody's is dearer than all of it", x.turn(1), 3 + 5);
        Check.votes(x, 0, 8, 0, 0);
        Check.due(31, "4 0 0: land 0 is nobody's by 4", x.turn(1), 3 + 4);
    }

    private static void turnByLandsWithCells() {
        PeopleLands x = Check.mapped("01", "..");
        Check.votes(x, 0, 9, 0, 0);
        Check.votes(x, 1, 1, 0, 0);
        Check.due(31, "acres are not asked", x.turn(1), STATE);
        x.give(true, 0, 0);
        Check.due(31, "a land without cells is of no help", x.turn(1), 5);
        x.give(true, 1, 1);
        x.give(true, 2, 1);
        Check.due(31, "one vote in the larger one", x.turn(1), 1);
    }

    private static void turnToTheThird() {
        PeopleLands x = Check.mapped("...", "...");
        Check.draw(x, true, "000", "112");
        Check.votes(x, 0, 10, 0, 0);
        Check.votes(x, 1, 0, 10, 0);
        Check.votes(x, 2, 0, 0, 10);
        Check.due(31, "3 2 1: nobody's at 5 5 will do", x.turn(1), 5);
        Check.due(31, "3 2 1: land 0 has to be its own", x.turn(2), 6);
        Check.due(31, "votes of the second side do not go", x.has(1, 2), 10);
    }
}
