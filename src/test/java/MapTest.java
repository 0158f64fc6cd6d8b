/** Promises 1 to 7, 22 and 32: the map, the drawing, and what is counted of them. */
public final class MapTest {
    public static void main(String[] args) {
        newObject();
        field();
        give();
        box();
        at();
        trace();
        cells();
        changed();
        count();
        Check.end("MapTest");
    }

    private static void newObject() {
        PeopleLands x = new PeopleLands();
        Check.due(1, "count(0)", x.count(0), 16);
        Check.isDrawn(1, "new", x, false, "....", "....", "....", "....");
        Check.isDrawn(1, "new", x, true, "....", "....", "....", "....");
        Check.due(1, "at(false, 16)", x.at(false, 16), PeopleLands.UNKNOWN);
        for (int land = 0; land < 6; land++) {
            Check.due(1, "heads(" + land + ", 1)", x.heads(land, 1), 0);
            for (int side = 0; side < 3; side++) {
                Check.due(1, "votes(" + land + ", " + side + ", 1)", x.votes(land, side, 1), 0);
            }
        }
        Check.due(1, "way(0)", x.way(0), 0);
        x = new PeopleLands();
        for (int what = 1; what <= 4; what++) {
            Check.due(1, "count(" + what + ")", x.count(what), 0);
        }
        x.give(false, 7, 0);
        x.give(false, 8, 1);
        Check.due(1, "4 wide: beside(false, 0, 1)", x.beside(false, 0, 1), 0);
        x.give(false, 3, 1);
        Check.due(1, "4 wide: beside(false, 0, 1)", x.beside(false, 0, 1), 1);
    }

    private static void field() {
        for (int w = 2; w <= 6; w++) {
            for (int h = 2; h <= 6; h++) {
                PeopleLands x = new PeopleLands();
                Check.due(2, "field(" + w + ", " + h + ")", x.field(w, h), w * h);
                Check.due(2, "its last cell", x.at(true, w * h - 1), 6);
                Check.due(2, "the one behind it", x.at(true, w * h), PeopleLands.UNKNOWN);
                Check.due(2, "a row's end and the next one's begin", besides(x, w - 1, w), 0);
                Check.due(2, "one and the one below", besides(x, 1, w + 1), 1);
            }
        }
        PeopleLands x = new PeopleLands();
        x.give(false, 0, 1);
        x.give(true, 15, 2);
        x.heads(3, 77);
        x.votes(4, 2, 55);
        x.way(2);
        int[] bad = {1, 7, 0, -1, -4, Integer.MAX_VALUE, Integer.MIN_VALUE};
        for (int n : bad) {
            Check.due(2, "field(" + n + ", 3)", x.field(n, 3), PeopleLands.BAD);
            Check.due(2, "field(3, " + n + ")", x.field(3, n), PeopleLands.BAD);
        }
        Check.due(2, "field(65536, 65536)", x.field(65536, 65536), PeopleLands.BAD);
        Check.due(2, "refused: count(0)", x.count(0), 16);
        Check.due(2, "refused: at(false, 0)", x.at(false, 0), 1);
        Check.due(2, "refused: at(true, 15)", x.at(true, 15), 2);
        Check.due(2, "field(4, 4)", x.field(4, 4), 16);
        Check.due(2, "count(1)", x.count(1), 0);
        Check.due(2, "count(2)", x.count(2), 0);
        Check.due(2, "heads stay", x.heads(3, 0), 77);
        Check.due(2, "votes stay", x.votes(4, 2, 0), 55);
        Check.due(2, "way stays", x.way(0), 2);
    }

    private static int besides(PeopleLands x, int a, int b) {
        x.give(true, a, 0);
        x.give(true, b, 1);
        int answer = x.beside(true, 0, 1);
        x.give(true, a, 6);
        x.give(true, b, 6);
        return answer;
    }

    private static void give() {
        PeopleLands x = new PeopleLands();
        x.field(3, 2);
        Check.due(3, "give(false, 5, 0)", x.give(false, 5, 0), 6);
        Check.due(3, "give(false, 5, 4)", x.give(false, 5, 4), 0);
        Check.due(3, "give(false, 5, 4) again", x.give(false, 5, 4), 4);
        Check.due(3, "the drawing's own", x.give(true, 5, 3), 6);
        Check.due(3, "give(false, 5, 6)", x.give(false, 5, 6), 4);
        Check.due(3, "give(false, 5, 6) again", x.give(false, 5, 6), 6);
        Check.due(3, "give(false, 0, 5)", x.give(false, 0, 5), 6);
        Check.isDrawn(3, "given", x, false, "5..", "...");
        Check.isDrawn(3, "given", x, true, "...", "..3");
        for (int n : Check.WILD) {
            Check.due(3, "give(true, " + n + ", 0)", x.give(true, n, 0), PeopleLands.UNKNOWN);
            if (n != 6) {
                Check.due(3, "give(true, 0, " + n + ")", x.give(true, 0, n), PeopleLands.UNKNOWN);
            }
        }
        Check.isDrawn(3, "refused", x, true, "...", "..3");
    }

    private static void box() {
        PeopleLands x = new PeopleLands();
        x.field(4, 3);
        Check.due(4, "box(false, 1, 6, 0)", x.box(false, 1, 6, 0), 4);
        Check.isDrawn(4, "boxed", x, false, ".00.", ".00.", "....");
        Check.due(4, "box(false, 5, 11, 1)", x.box(false, 5, 11, 1), 6);
        Check.isDrawn(4, "boxed", x, false, ".00.", ".111", ".111");
        Check.due(4, "box(false, 1, 9, 0)", x.box(false, 1, 9, 0), 2);
        Check.due(4, "box(false, 0, 11, 0)", x.box(false, 0, 11, 0), 8);
        Check.due(4, "box(false, 0, 11, 0) again", x.box(false, 0, 11, 0), 0);
        Check.due(4, "box(false, 0, 3, 6)", x.box(false, 0, 3, 6), 4);
        Check.due(4, "box(false, 0, 4, 6)", x.box(false, 0, 4, 6), 1);
        Check.due(4, "one cell", x.box(false, 11, 11, 5), 1);
        Check.isDrawn(4, "boxed", x, false, "....", ".000", "0005");
        Check.isDrawn(4, "the drawing's own", x, true, "....", "....", "....");
        Check.due(4, "box(true, 2, 10, 3)", x.box(true, 2, 10, 3), 3);
        Check.isDrawn(4, "boxed", x, true, "..3.", "..3.", "..3.");
        Check.due(4, "before in x", x.box(true, 1, 4, 0), PeopleLands.BAD);
        Check.due(4, "before in y", x.box(true, 4, 1, 0), PeopleLands.BAD);
        Check.due(4, "before in both", x.box(true, 11, 0, 0), PeopleLands.BAD);
        Check.due(4, "land ahead of corners", x.box(true, 11, 0, 7), PeopleLands.UNKNOWN);
        for (int n : Check.WILD) {
            if (n != 6 && n != 7) {
                Check.due(4, "box(true, " + n + ", 11, 0)", x.box(true, n, 11, 0), PeopleLands.UNKNOWN);
                Check.due(4, "box(true, 0, " + n + ", 0)", x.box(true, 0, n, 0), PeopleLands.UNKNOWN);
            }
            if (n != 6) {
                Check.due(4, "box(true, 0, 11, " + n + ")", x.box(true, 0, 11, n), PeopleLands.UNKNOWN);
            }
        }
        Check.due(4, "box(true, 12, 0, 0)", x.box(true, 12, 0, 0), PeopleLands.UNKNOWN);
        Check.due(4, "box(true, 0, 12, 0)", x.box(true, 0, 12, 0), PeopleLands.UNKNOWN);
        Check.isDrawn(4, "refused", x, true, "..3.", "..3.", "..3.");
    }

    private static void at() {
        PeopleLands x = Check.mapped("012345", "......");
        Check.isDrawn(5, "mapped", x, false, "012345", "......");
        Check.isDrawn(5, "mapped", x, true, "......", "......");
        for (int n : Check.WILD) {
            if (n != 6 && n != 7) {
                Check.due(5, "at(false, " + n + ")", x.at(false, n), PeopleLands.UNKNOWN);
                Check.due(5, "at(true, " + n + ")", x.at(true, n), PeopleLands.UNKNOWN);
            }
        }
        Check.due(5, "at(false, 12)", x.at(false, 12), PeopleLands.UNKNOWN);
    }

    private static void trace() {
        PeopleLands x = Check.mapped("01.", "02.");
        Check.draw(x, true, "0.3", "10.");
        Check.due(6, "trace()", x.trace(), 4);
        Check.isDrawn(6, "traced", x, true, "01.", "02.");
        Check.isDrawn(6, "traced", x, false, "01.", "02.");
        Check.due(6, "trace() again", x.trace(), 0);
        x.give(false, 2, 5);
        Check.due(6, "a copy, not the map itself", x.at(true, 2), 6);
        Check.due(6, "trace()", x.trace(), 1);
        x.give(true, 0, 6);
        Check.due(6, "the map is its own", x.at(false, 0), 0);
    }

    private static void cells() {
        PeopleLands x = Check.mapped("0011", "0.15", "05.5");
        Check.draw(x, true, "2222", "....", "...0");
        int[] mapped = {4, 3, 0, 0, 0, 3};
        int[] drawn = {1, 0, 4, 0, 0, 0};
        for (int land = 0; land < 6; land++) {
            Check.due(7, "cells(false, " + land + ")", x.cells(false, land), mapped[land]);
            Check.due(7, "cells(true, " + land + ")", x.cells(true, land), drawn[land]);
        }
        for (int n : Check.WILD) {
            Check.due(7, "cells(false, " + n + ")", x.cells(false, n), PeopleLands.UNKNOWN);
            Check.due(7, "cells(true, " + n + ")", x.cells(true, n), PeopleLands.UNKNOWN);
        }
    }

    private static void changed() {
        PeopleLands x = Check.mapped("012", "...", "345");
        Check.due(22, "nothing is drawn", x.changed(), 6);
        x.trace();
        Check.due(22, "traced", x.changed(), 0);
        Check.draw(x, true, "01.", "55.", "344");
        Check.due(22, "what was sea in the map is no cell of it", x.changed(), 2);
        Check.due(22, "field all of the sea", new PeopleLands().changed(), 0);
    }

    private static void count() {
        PeopleLands x = Check.mapped("00.", "12.");
        Check.draw(x, true, "555", "55.");
        Check.heads(x, 999, 1, 0, 0, 7, 20);
        Check.due(32, "count(0)", x.count(0), 6);
        Check.due(32, "count(1)", x.count(1), 4);
        Check.due(32, "count(2)", x.count(2), 5);
        Check.due(32, "count(3)", x.count(3), 1027);
        Check.due(32, "count(4)", x.count(4), 3);
        int[] bad = {-1, 5, 6, Integer.MAX_VALUE, Integer.MIN_VALUE};
        for (int n : bad) {
            Check.due(32, "count(" + n + ")", x.count(n), PeopleLands.BAD);
        }
        PeopleLands full = Check.mapped("012345", "012345", "012345", "012345", "012345", "012345");
        Check.due(32, "count(0) of the largest", full.count(0), 36);
        Check.due(32, "count(1) of the largest", full.count(1), 36);
        Check.due(32, "count(2) of the largest", full.count(2), 0);
        Check.due(32, "count(4) of the largest", full.count(4), 6);
    }
}
