/**
 * Promises 1 to 10, 22 and 32 at their edges: the last values that are taken, the empty and the
 * full map and drawing, rows that do not run on into the next one.
 */
public final class MapEdgesTest {
    private static final int NONE = PeopleLands.NONE, STATE = PeopleLands.STATE, UNKNOWN = PeopleLands.UNKNOWN;
    private static final boolean[] BOTH = {false, true};
    private static final String[] SEA = {"......", "......", "......", "......", "......", "......"};

    public static void main(String[] args) {
        newObject();
        newObjectHasNoPeople();
        lastCallsOfAnObject();
        fieldOfEachSize();
        fieldOfTheSameSize();
        smallerFieldHasFewerCells();
        noCellComesBack();
        giveFirstAndLast();
        boxOfOneCell();
        boxOfRowsAndColumns();
        boxOfAll();
        traceEmptyAndFull();
        cellsEmptyAndFull();
        headsFirstAndLast();
        wayFirstAndLast();
        dueWithoutHeadsOrCells();
        dueOfOneCell();
        dueOfLikeOnes();
        dueWithoutRests();
        dueOfTheMost();
        changedEmptyAndFull();
        countEmptyAndFull();
        Check.end("MapEdgesTest");
    }

    private static void newObject() {
        PeopleLands x = new PeopleLands();
        for (boolean drawn : BOTH) {
            Check.due(1, "at(" + drawn + ", 0)", x.at(drawn, 0), 6);
            Check.due(1, "at(" + drawn + ", 15)", x.at(drawn, 15), 6);
            Check.due(1, "at(" + drawn + ", 16)", x.at(drawn, 16), UNKNOWN);
        }
        Check.due(1, "trace()", x.trace(), 0);
        Check.due(1, "faults()", x.faults(), 0);
        Check.due(1, "mend()", x.mend(), NONE);
        Check.due(1, "chain()", x.chain(), NONE);
        Check.due(1, "link(0)", x.link(0), NONE);
        Check.due(1, "pass()", x.pass(), STATE);
        Check.due(1, "settle()", x.settle(), 0);
        Check.due(1, "changed()", x.changed(), 0);
        Check.due(1, "off()", x.off(), 0);
        Check.due(1, "kept()", x.kept(), 0);
        for (int what = 0; what < 5; what++) {
            Check.due(1, "count(" + what + ")", x.count(what), what == 0 ? 16 : 0);
        }
        x.give(true, 12, 0);
        x.give(true, 3, 1);
        Check.due(1, "the last row's first is not beside the first row's last", x.beside(true, 0, 1), 0);
        Check.due(1, "4 rows of 4: from corner to corner", farthest(x), 6);
    }

    private static int farthest(PeopleLands x) {
        x.give(false, 3, 0);
        return x.carried(0);
    }

    private static void newObjectHasNoPeople() {
        PeopleLands x = new PeopleLands();
        for (int land = 0; land < 6; land++) {
            Check.due(1, "due(" + land + ")", x.due(land), 0);
            Check.due(1, "parts(" + land + ")", x.parts(land), 0);
            Check.due(1, "carried(" + land + ")", x.carried(land), 0);
            Check.due(1, "tile(" + land + ")", x.tile(land), NONE);
            Check.due(1, "won(" + land + ")", x.won(land), NONE);
            Check.due(1, "cells(false, " + land + ")", x.cells(false, land), 0);
            Check.due(1, "cells(true, " + land + ")", x.cells(true, land), 0);
        }
        for (int side = 0; side < 3; side++) {
            Check.due(1, "turn(" + side + ")", x.turn(side), STATE);
            Check.due(1, "ahead(" + side + ")", x.ahead(side), NONE);
            for (int by = 0; by < 3; by++) {
                Check.due(1, "has(" + side + ", " + by + ")", x.has(side, by), 0);
            }
        }
        for (int land = 0; land < 6; land++) {
            Check.due(1, "heads(" + land + ", 0)", x.heads(land, 0), 0);
            for (int side = 0; side < 3; side++) {
                Check.due(1, "votes(" + land + ", " + side + ", 0)", x.votes(land, side, 0), 0);
            }
        }
        Check.due(1, "way(0)", x.way(0), 0);
    }

    /** An object is used for 512 calls: the last of them still answers. */
    private static void lastCallsOfAnObject() {
        PeopleLands x = new PeopleLands();
        for (int call = 1; call <= 508; call += 2) {
            Check.due(3, "call " + call, x.give(true, 15, 3), 6);
            Check.due(3, "call " + (call + 1), x.give(true, 15, 6), 3);
        }
        Check.due(3, "call 509", x.give(true, 15, 3), 6);
        Check.due(13, "call 510", x.faults(), 1);
        Check.due(15, "call 511", x.mend(), 156);
        Check.due(32, "call 512", x.count(2), 0);
    }

    private static void fieldOfEachSize() {
        Scene full = Scene.full();
        for (int w = 2; w <= 6; w++) {
            for (int h = 2; h <= 6; h++) {
                PeopleLands x = full.make();
                Check.due(2, "field(" + w + ", " + h + ")", x.field(w, h), w * h);
                Check.due(2, "count(0)", x.count(0), w * h);
                Check.due(2, "the map is of the sea", x.count(1), 0);
                Check.due(2, "the drawing is of the sea", x.count(2), 0);
                Check.due(2, "the last cell", x.at(false, w * h - 1), 6);
                Check.due(2, "the one behind it", x.at(false, w * h), UNKNOWN);
                Check.due(2, "heads stay", x.count(3), 6 * 999);
                Check.due(2, "votes stay", x.has(2, 2), 999 + 999 + 998 + 3);
                Check.due(2, "the last cell", x.give(true, w * h - 1, 0), 6);
                x.give(false, 0, 0);
                Check.due(2, "from corner to corner", x.carried(0), w + h - 2);
            }
        }
    }

    private static void fieldOfTheSameSize() {
        PeopleLands x = Scene.ordinary().make();
        Check.due(2, "field(5, 3) again", x.field(5, 3), 15);
        Check.isDrawn(2, "all of the sea", x, false, ".....", ".....", ".....");
        Check.isDrawn(2, "all of the sea", x, true, ".....", ".....", ".....");
        Check.due(2, "heads stay", x.heads(2, 0), 120);
        Check.due(2, "votes stay", x.votes(3, 1, 0), 21);
        Check.due(2, "the way stays", x.way(0), 2);
    }

    private static void smallerFieldHasFewerCells() {
        PeopleLands x = new PeopleLands();
        x.field(6, 6);
        Check.due(3, "cell 35 of 36", x.give(true, 35, 0), 6);
        x.field(2, 2);
        Check.due(3, "cell 3 of 4", x.give(true, 3, 0), 6);
        Check.due(3, "cell 4 of 4", x.give(true, 4, 0), UNKNOWN);
        Check.due(5, "cell 35 of 4", x.at(true, 35), UNKNOWN);
        Check.due(4, "corner 4 of 4", x.box(true, 0, 4, 0), UNKNOWN);
        Check.due(14, "cell 4 of 4", x.would(4, 0), UNKNOWN);
        Check.due(16, "cell 4 of 4", x.mayHand(4, 0), UNKNOWN);
        Check.due(17, "cell 4 of 4", x.hand(4, 0), UNKNOWN);
        Check.due(32, "count(2)", x.count(2), 1);
        x.field(2, 3);
        Check.due(3, "cell 4 of 6", x.give(true, 4, 0), 6);
        Check.due(3, "cell 6 of 6", x.give(true, 6, 0), UNKNOWN);
    }

    private static void noCellComesBack() {
        PeopleLands x = new PeopleLands();
        x.field(6, 6);
        x.box(false, 0, 35, 4);
        x.box(true, 0, 35, 5);
        x.field(2, 2);
        x.field(6, 6);
        Check.isDrawn(2, "larger again", x, false, SEA);
        Check.isDrawn(2, "larger again", x, true, SEA);
    }

    private static void giveFirstAndLast() {
        for (boolean drawn : BOTH) {
            for (int w = 2; w <= 6; w += 2) {
                Scene scene = Scene.empty(w, 8 - w);
                int last = scene.size - 1;
                scene.changes(3, "the first cell, the first land", 6, x -> x.give(drawn, 0, 0));
                scene.changes(3, "the first cell, the last land", 6, x -> x.give(drawn, 0, 5));
                scene.changes(3, "the last cell, the first land", 6, x -> x.give(drawn, last, 0));
                scene.changes(3, "the last cell, the last land", 6, x -> x.give(drawn, last, 5));
                scene.keeps(3, "the sea to the sea", 6, x -> x.give(drawn, last, 6));
                scene.keeps(3, "to the sea again", 5, x -> x.give(drawn, last, 5) == 6 ? x.give(drawn, last, 6) : 0);
            }
            Scene.full().keeps(3, "to its own", 0, x -> x.give(drawn, 0, 0));
            Scene.full().keeps(3, "to its own", 5, x -> x.give(drawn, 35, 5));
            Scene.full().changes(3, "to the sea", 5, x -> x.give(drawn, 35, 6));
        }
        PeopleLands x = Scene.full().make();
        x.give(false, 35, 6);
        Check.isDrawn(3, "one cell alone", x, false, "012345", "012345", "012345", "012345", "012345", "01234.");
        Check.isDrawn(3, "the other one stays", x, true, "000000", "111111", "222222", "333333", "444444", "555555");
    }

    private static void boxOfOneCell() {
        for (boolean drawn : BOTH) {
            Scene empty = Scene.empty(6, 6);
            for (int cell = 0; cell < 36; cell++) {
                int of = cell;
                empty.changes(4, "box of cell " + cell, 1, x -> x.box(drawn, of, of, 5));
                empty.keeps(4, "box of cell " + cell + " of the sea", 0, x -> x.box(drawn, of, of, 6));
            }
        }
        PeopleLands x = new PeopleLands();
        x.box(true, 15, 15, 5);
        Check.isDrawn(4, "the last cell alone", x, true, "....", "....", "....", "...5");
        x.box(true, 0, 0, 0);
        Check.isDrawn(4, "the first cell too", x, true, "0...", "....", "....", "...5");
    }

    private static void boxOfRowsAndColumns() {
        PeopleLands x = Check.mapped("...", "...", "...");
        Check.due(4, "the first row", x.box(false, 0, 2, 0), 3);
        Check.isDrawn(4, "it does not run on", x, false, "000", "...", "...");
        Check.due(4, "the last row", x.box(false, 6, 8, 1), 3);
        Check.isDrawn(4, "it does not run on", x, false, "000", "...", "111");
        Check.due(4, "the last column", x.box(false, 2, 8, 2), 3);
        Check.isDrawn(4, "it does not run on", x, false, "002", "..2", "112");
        Check.due(4, "the first column", x.box(false, 0, 6, 3), 3);
        Check.isDrawn(4, "both corners are in it", x, false, "302", "3.2", "312");
        Check.due(4, "cells that were its own are not told", x.box(false, 0, 2, 3), 2);
        Check.due(4, "the lower right", x.box(false, 4, 8, 6), 3);
        Check.isDrawn(4, "the sea", x, false, "333", "3..", "3..");
        Check.isDrawn(4, "the drawing stays", x, true, "...", "...", "...");
    }

    private static void boxOfAll() {
        for (int w = 2; w <= 6; w++) {
            for (int h = 2; h <= 6; h++) {
                PeopleLands x = new PeopleLands();
                x.field(w, h);
                int size = w * h;
                Check.due(4, "all of " + size, x.box(true, 0, size - 1, 5), size);
                Check.due(4, "all of it again", x.box(true, 0, size - 1, 5), 0);
                Check.due(7, "all of it", x.cells(true, 5), size);
                Check.due(4, "all to another", x.box(true, 0, size - 1, 0), size);
                Check.due(4, "all to the sea", x.box(true, 0, size - 1, 6), size);
                Check.due(4, "all to the sea again", x.box(true, 0, size - 1, 6), 0);
                Check.due(4, "the map stays", x.count(1), 0);
            }
        }
    }

    private static void traceEmptyAndFull() {
        PeopleLands x = Scene.empty(6, 6).make();
        Check.due(6, "empty on empty", x.trace(), 0);
        x.box(false, 0, 35, 5);
        Check.due(6, "full on empty", x.trace(), 36);
        Check.due(6, "traced: cells(true, 5)", x.cells(true, 5), 36);
        Check.due(6, "full on full", x.trace(), 0);
        x.box(false, 0, 35, 0);
        Check.due(6, "another's", x.trace(), 36);
        x.box(false, 0, 35, 6);
        Check.due(6, "empty on full", x.trace(), 36);
        Check.isDrawn(6, "all of the sea", x, true, SEA);
        x.give(true, 35, 5);
        Check.due(6, "the last cell", x.trace(), 1);
        Check.due(6, "the last cell", x.at(true, 35), 6);
    }

    private static void cellsEmptyAndFull() {
        for (int land = 0; land < 6; land++) {
            PeopleLands x = Scene.empty(6, 6).make();
            x.box(false, 0, 35, land);
            Check.due(7, "all in the map", x.cells(false, land), 36);
            Check.due(7, "none in the drawing", x.cells(true, land), 0);
            x.trace();
            x.box(false, 0, 35, 6);
            Check.due(7, "none in the map", x.cells(false, land), 0);
            Check.due(7, "all in the drawing", x.cells(true, land), 36);
            x.give(true, 35, 6);
            Check.due(7, "all but one", x.cells(true, land), 35);
            Check.due(7, "another has none", x.cells(true, (land + 1) % 6), 0);
        }
    }

    private static void headsFirstAndLast() {
        PeopleLands x = new PeopleLands();
        for (int land = 0; land < 6; land++) {
            Check.due(8, "heads(" + land + ", 999)", x.heads(land, 999), 0);
            Check.due(8, "heads(" + land + ", 1000)", x.heads(land, 1000), PeopleLands.BAD);
            Check.due(8, "heads(" + land + ", -1)", x.heads(land, -1), PeopleLands.BAD);
            Check.due(8, "heads(" + land + ", 998)", x.heads(land, 998), 999);
            Check.due(8, "heads(" + land + ", 999)", x.heads(land, 999), 998);
        }
        Check.due(32, "the most heads", x.count(3), 5994);
        for (int land = 0; land < 6; land++) {
            Check.due(8, "heads(" + land + ", 0)", x.heads(land, 0), 999);
            Check.due(8, "heads(" + land + ", 0) again", x.heads(land, 0), 0);
        }
        Check.due(32, "no heads", x.count(3), 0);
        Check.due(27, "votes are others", x.votes(0, 0, 0), 0);
    }

    private static void wayFirstAndLast() {
        PeopleLands x = new PeopleLands();
        int was = 0;
        for (int way : new int[] {0, 0, 1, 2, 2, 1, 1, 0, 2, 0}) {
            Check.due(9, "way(" + way + ")", x.way(way), was);
            was = way;
        }
        x.way(2);
        Check.due(9, "way(3)", x.way(3), PeopleLands.BAD);
        Check.due(9, "way(-1)", x.way(-1), PeopleLands.BAD);
        Check.due(9, "it stayed", x.way(2), 2);
    }

    private static void dueWithoutHeadsOrCells() {
        for (int way = 0; way < 3; way++) {
            PeopleLands x = Scene.empty(6, 6).make();
            x.way(way);
            Check.isDue("neither heads nor cells, way " + way, x, 0, 0, 0, 0, 0, 0);
            Check.heads(x, 999, 1, 0, 5, 999, 3);
            Check.isDue("no cells, way " + way, x, 0, 0, 0, 0, 0, 0);
            x.box(true, 0, 35, 0);
            Check.isDue("cells of the drawing alone, way " + way, x, 0, 0, 0, 0, 0, 0);
            Check.heads(x, 0, 0, 0, 0, 0, 0);
            x.box(false, 0, 35, 0);
            Check.isDue("no heads, way " + way, x, 0, 0, 0, 0, 0, 0);
            x.heads(5, 1);
            Check.isDue("one head has all, way " + way, x, 0, 0, 0, 0, 0, 36);
        }
    }

    private static void dueOfOneCell() {
        for (int way = 0; way < 3; way++) {
            PeopleLands x = Scene.empty(2, 2).make();
            x.give(false, 3, 5);
            x.way(way);
            Check.heads(x, 0, 998, 999, 999, 0, 998);
            Check.isDue("one cell to the most heads, of like ones the least, way " + way, x, 0, 0, 1, 0, 0, 0);
            x.heads(5, 999);
            x.heads(0, 999);
            Check.isDue("one cell, way " + way, x, 1, 0, 0, 0, 0, 0);
        }
    }

    /** In each way the last of 36 cells is due to both alike: the least land has it. */
    private static void dueOfLikeOnes() {
        int[][] likes = {{0, 71}, {1, 36}, {2, 71}};
        for (int[] like : likes) {
            PeopleLands x = Scene.empty(6, 6).make();
            x.box(false, 0, 35, 2);
            x.way(like[0]);
            Check.heads(x, 0, 1, 0, 0, like[1], 0);
            Check.isDue("like ones, way " + like[0], x, 0, 1, 0, 0, 35, 0);
            Check.heads(x, 0, like[1], 0, 0, 1, 0);
            Check.isDue("like ones, way " + like[0], x, 0, 36, 0, 0, 0, 0);
            Check.heads(x, 0, like[1] - 1, 0, 0, 1, 0);
            Check.isDue("one head less, way " + like[0], x, 0, 35, 0, 0, 1, 0);
            Check.heads(x, 0, 1, 0, 0, like[1] + 1, 0);
            Check.isDue("one head more, way " + like[0], x, 0, 0, 0, 0, 36, 0);
        }
    }

    private static void dueWithoutRests() {
        PeopleLands x = Check.mapped("000000", "......");
        Check.heads(x, 1, 2, 3, 0, 0, 0);
        Check.isDue("nothing is left", x, 1, 2, 3, 0, 0, 0);
        Check.heads(x, 166, 166, 166, 166, 166, 166);
        Check.isDue("nothing is left", x, 1, 1, 1, 1, 1, 1);
        Check.heads(x, 1, 1, 1, 1, 0, 0);
        Check.isDue("two are left, four like ones", x, 2, 2, 1, 1, 0, 0);
        x.give(false, 0, 6);
        Check.heads(x, 1, 1, 1, 1, 1, 1);
        Check.isDue("five are left, six like ones", x, 1, 1, 1, 1, 1, 0);
    }

    private static void dueOfTheMost() {
        for (int way = 0; way < 3; way++) {
            PeopleLands x = Scene.full().make();
            x.way(way);
            Check.isDue("the most heads, the most cells, way " + way, x, 6, 6, 6, 6, 6, 6);
            x.give(false, 0, 6);
            Check.isDue("one cell less, way " + way, x, 6, 6, 6, 6, 6, 5);
            Check.heads(x, 1, 1, 1, 1, 1, 999);
            Check.isDue("all but five heads, way " + way, x, 0, 0, 0, 0, 0, 35);
        }
    }

    private static void changedEmptyAndFull() {
        PeopleLands x = Scene.empty(6, 6).make();
        Check.due(22, "empty, empty", x.changed(), 0);
        x.box(true, 0, 35, 0);
        Check.due(22, "no cell of the map, all drawn", x.changed(), 0);
        x.box(false, 0, 35, 0);
        Check.due(22, "all alike", x.changed(), 0);
        x.give(true, 35, 6);
        Check.due(22, "the last one is the sea's", x.changed(), 1);
        x.give(true, 35, 5);
        Check.due(22, "the last one is another's", x.changed(), 1);
        x.box(true, 0, 35, 5);
        Check.due(22, "all of them", x.changed(), 36);
        x.box(true, 0, 35, 6);
        Check.due(22, "nothing is drawn", x.changed(), 36);
        x.give(false, 0, 6);
        Check.due(22, "the sea in both", x.changed(), 35);
    }

    private static void countEmptyAndFull() {
        PeopleLands x = Scene.empty(2, 2).make();
        isCounted("smallest, empty", x, 4, 0, 0, 0, 0);
        Check.draw(x, false, "01", "25");
        isCounted("smallest, full", x, 4, 4, 0, 0, 4);
        x.trace();
        x.box(false, 0, 3, 6);
        isCounted("cells in the drawing alone", x, 4, 0, 4, 0, 0);
        isCounted("largest, full", Scene.full().make(), 36, 36, 36, 5994, 6);
        x = Scene.full().make();
        x.give(false, 35, 6);
        x.give(true, 0, 6);
        x.give(true, 1, 6);
        x.heads(5, 0);
        isCounted("one less", x, 36, 35, 34, 4995, 6);
        x.box(false, 5, 35, 0);
        isCounted("a land less", x, 36, 36, 34, 4995, 5);
    }

    private static void isCounted(String when, PeopleLands x, int... want) {
        for (int what = 0; what < want.length; what++) {
            Check.due(32, when + ": count(" + what + ")", x.count(what), want[what]);
        }
    }
}
