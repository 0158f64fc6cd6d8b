/** Promises 23 to 26: how far a land is carried, and the map of one cell a land. */
public final class TilesTest {
    private static final int NONE = PeopleLands.NONE;

    public static void main(String[] args) {
        carried();
        carriedFar();
        tiles();
        tilesOfAnotherMap();
        tilesOfLikeOnes();
        tilesAtTheirEdges();
        kept();
        Check.end("TilesTest");
    }

    private static void carried() {
        PeopleLands x = Check.mapped("0001", "...1", "22..");
        for (int land = 0; land < 6; land++) {
            int due = land < 3 ? PeopleLands.STATE : 0;
            Check.due(23, "nothing is drawn: carried(" + land + ")", x.carried(land), due);
        }
        x.trace();
        for (int land = 0; land < 6; land++) {
            Check.due(23, "traced: carried(" + land + ")", x.carried(land), 0);
        }
        Check.draw(x, true, "1000", "1...", ".22.");
        Check.due(23, "one on by one, or the first by three", x.carried(0), 3);
        Check.due(23, "across", x.carried(1), 6);
        Check.due(23, "the first one past the other", x.carried(2), 2);
        Check.draw(x, true, "0..2", ".0..", "2..0");
        Check.due(23, "0 stays, 1 to 5, 2 to 11", x.carried(0), 1 + 3);
        Check.due(23, "has none", x.carried(1), PeopleLands.STATE);
        Check.due(23, "8 stays, 9 to 3", x.carried(2), 4);
        x.give(true, 1, 0);
        Check.due(23, "has one more", x.carried(0), PeopleLands.STATE);
        for (int n : Check.WILD) {
            Check.due(23, "carried(" + n + ")", x.carried(n), PeopleLands.UNKNOWN);
        }
        Check.isDrawn(23, "nothing is changed", x, true, "00.2", ".0..", "2..0");
        x = Check.mapped("00..", "....", "....", "....");
        Check.draw(x, true, ".0..", "....", "....", "...0");
        Check.due(23, "the nearest first would be no less", x.carried(0), 6);
        x = Check.mapped("0..0..", "......");
        Check.draw(x, true, ".0...0", "......");
        Check.due(23, "each to its own: 0 to 1, 3 to 5", x.carried(0), 3);
        x = Check.mapped("...0.0", "......");
        Check.draw(x, true, "0...0.", "......");
        Check.due(23, "the nearest is not its own: 3 to 0, 5 to 4", x.carried(0), 4);
    }

    private static void carriedFar() {
        PeopleLands x = Check.mapped("000000", "000000", "000000", "......", "......", "......");
        Check.draw(x, true, "......", "......", "......", "000000", "000000", "000000");
        Check.due(23, "half the field by three", x.carried(0), 54);
        x.box(false, 0, 35, 0);
        x.box(true, 0, 35, 0);
        Check.due(23, "all of it", x.carried(0), 0);
        x = Check.mapped("0.....", "......", "......", "......", "......", "......");
        x.give(true, 35, 0);
        Check.due(23, "from corner to corner", x.carried(0), 10);
        x = Check.mapped("0.0.0.", ".0.0.0", "0.0.0.", ".0.0.0", "0.0.0.", ".0.0.0");
        Check.draw(x, true, ".0.0.0", "0.0.0.", ".0.0.0", "0.0.0.", ".0.0.0", "0.0.0.");
        Check.due(23, "a board of chess, each by one", x.carried(0), 18);
        x = Check.mapped("111...", "111...", "111...", "......", "......", "......");
        Check.draw(x, true, "......", "......", "......", "...111", "...111", "...111");
        Check.due(23, "a block across", x.carried(1), 54);
    }

    private static void tiles() {
        PeopleLands x = Check.mapped("0001", "0001", "2.21", "....");
        Check.isTiled("of like rows the least cell", x, 9, 1, 7, 9, NONE, NONE, NONE);
        Check.draw(x, true, "5555", "5555", "5555", "5555");
        Check.isTiled("the drawing has no say", x, 9, 1, 7, 9, NONE, NONE, NONE);
        Check.isDrawn(25, "nothing is changed", x, false, "0001", "0001", "2.21", "....");
        Check.isDrawn(25, "nothing is changed", x, true, "5555", "5555", "5555", "5555");
        Check.isTiled("each its own", Check.mapped("543", "012"), 0, 3, 4, 5, 2, 1, 0);
        Check.isTiled("each its own, no room more", Check.mapped("50", "23"), 0, 1, NONE, 2, 3, NONE, 0);
        Check.isTiled("one without land", Check.mapped("..", ".4"), 0, NONE, NONE, NONE, NONE, 3, NONE);
    }

    private static void tilesOfAnotherMap() {
        PeopleLands x = Check.mapped("000", "010", "000");
        Check.isTiled("ahead of it", x, 1, 4, 1, NONE, NONE, NONE, NONE);
        Check.draw(x, false, "...", "..1", "220");
        Check.isTiled("another one", x, 1, 8, 5, 6, NONE, NONE, NONE);
        Check.due(26, "another one", x.kept(), 1);
        x.give(false, 8, 6);
        Check.isTiled("one less", x, 1, NONE, 5, 6, NONE, NONE, NONE);
        Check.due(26, "one less", x.kept(), 0);
        x = Check.mapped("......", "......", "......", "......", "......", ".....0");
        Check.isTiled("the last cell", x, 0, 35, NONE, NONE, NONE, NONE, NONE);
        x = Check.mapped("......", "......", "......", "......", "......", "543210");
        Check.isTiled("the last cells", x, 0, 35, 34, 33, 32, 31, 30);
    }

    private static void tilesOfLikeOnes() {
        Check.isTiled("the small one gives way", Check.mapped("000", "010", "000"), 1, 4, 1, NONE, NONE, NONE, NONE);
        Check.isTiled("the small one gives way", Check.mapped("111", "101", "111"), 1, 1, 4, NONE, NONE, NONE, NONE);
        Check.isTiled("all alike", Check.mapped("01", "10"), 4, 0, 1, NONE, NONE, NONE, NONE);
        Check.isTiled("all alike", Check.mapped("53", "35"), 4, NONE, NONE, NONE, 0, NONE, 1);
        Check.isTiled("cells 1 and 4 are the best for each: the first may as well have 0",
                Check.mapped("012", "210"), 7, 0, 1, 4, NONE, NONE, NONE);
        Check.isTiled("in the middle of the largest", Check.mapped("333333", "333333", "333333", "333333", "333333", "333333"),
                648, NONE, NONE, NONE, 14, NONE, NONE);
        Check.isTiled("all six are best at 14, 15, 20, 21, by 72 more at what lies beside",
                Check.mapped("012345", "543210", "012345", "543210", "012345", "543210"),
                tilesOfSixRows(), 8, 9, 14, 15, 20, 21);
        tilesLandByLand();
    }

    /**
     * The two wide lands take 16 and 17, so the one at 17 has to go: to 10 or 22 by 2, or to the
     * cell of one that lies above or below by 1, which goes by 1 in turn.
     */
    private static void tilesLandByLand() {
        Check.isTiled("the first has one less, though the second has 13 more than it could",
                Check.mapped("....23", ".....5", ".....1", ".....0", "....23"), 2, 22, 23, 16, 17, NONE, 11);
        Check.isTiled("likewise among the last lands",
                Check.mapped("....01", ".....5", ".....4", ".....3", "....01"), 2, 16, 17, NONE, 22, 23, 11);
        Check.isTiled("the one above comes first: up to 5, not 10 or 11",
                Check.mapped("....23", ".....0", ".....1", ".....5", "....23"), 2, 5, 11, 16, 17, NONE, 23);
        Check.isTiled("the one in the middle comes first: the least of 10, 11, 22, 23",
                Check.mapped("....23", ".....1", ".....0", ".....5", "....23"), 2, 10, 11, 16, 17, NONE, 23);
    }

    /** Each land has 6 cells, all x 15, all y 15: 18 on the four in the middle, 9 and 81 beside them. */
    private static int tilesOfSixRows() {
        return 4 * 18 + 2 * 90;
    }

    private static void tilesAtTheirEdges() {
        PeopleLands x = new PeopleLands();
        Check.isTiled("no land has cells", x, 0, NONE, NONE, NONE, NONE, NONE, NONE);
        x.box(true, 0, 15, 1);
        Check.isTiled("no land has cells in the map", x, 0, NONE, NONE, NONE, NONE, NONE, NONE);
        for (int n : Check.WILD) {
            Check.due(25, "tile(" + n + ")", x.tile(n), PeopleLands.UNKNOWN);
        }
    }

    private static void kept() {
        Check.due(26, "no land has cells", new PeopleLands().kept(), 0);
        Check.due(26, "each its own", Check.mapped("012", "345").kept(), 7);
        Check.due(26, "all three neighbours, tiles apart", Check.mapped("0001", "0001", "2.21", "....").kept(), 0);
        Check.due(26, "two of three", Check.mapped("012", "210").kept(), 2);
        Check.due(26, "tiles beside one another, but no neighbours", Check.mapped("0.0", ".1.", "...").kept(), 0);
        Check.due(26, "one", Check.mapped("000", "010", "000").kept(), 1);
    }
}
