/**
 * What is refused, for every call that refuses: the first values outside on both sides and far
 * ones, which refusal comes first, and that nothing is changed. The last values that are taken
 * stand in LimitsTest.
 */
public final class RefusalsTest {
    private static final int UNKNOWN = PeopleLands.UNKNOWN, BAD = PeopleLands.BAD, STATE = PeopleLands.STATE;
    private static final int LEAST = Integer.MIN_VALUE, LARGEST = Integer.MAX_VALUE;
    private static final boolean[] BOTH = {false, true};

    public static void main(String[] args) {
        for (Scene scene : Scene.all()) {
            edges(scene);
            cells(scene);
            owners(scene);
            lands(scene);
            boxes(scene);
            heads(scene);
            ways(scene);
            sides(scene);
            bys(scene);
            unknownFirst(scene);
        }
        stateOfNeighbours();
        stateOfChanges();
        stateOfHanding();
        stateOfChains();
        stateOfCarried();
        stateOfTurns();
        noneChangesNothing();
        Check.end("RefusalsTest");
    }

    private static int[] outside(int first, int last) {
        return new int[] {first - 1, last + 1, first - 100, last + 100, LEAST, LEAST + 1, LARGEST, LARGEST - 1,
            first + 65536, first - 65536};
    }

    private static void edges(Scene scene) {
        for (int n : outside(2, 6)) {
            for (int good : new int[] {2, 4, 6}) {
                scene.keeps(2, "field(" + n + ", " + good + ")", BAD, x -> x.field(n, good));
                scene.keeps(2, "field(" + good + ", " + n + ")", BAD, x -> x.field(good, n));
            }
            scene.keeps(2, "field(" + n + ", " + n + ")", BAD, x -> x.field(n, n));
        }
        scene.keeps(2, "field(1, 16)", BAD, x -> x.field(1, 16));
        scene.keeps(2, "field(12, 3)", BAD, x -> x.field(12, 3));
        scene.keeps(2, "field(-4, -4)", BAD, x -> x.field(-4, -4));
        scene.keeps(2, "field(65536, 65536)", BAD, x -> x.field(65536, 65536));
        scene.keeps(2, "field(0, 0)", BAD, x -> x.field(0, 0));
    }

    private static void cells(Scene scene) {
        int last = scene.size - 1;
        for (int n : outside(0, last)) {
            for (boolean drawn : BOTH) {
                scene.keeps(3, "give(" + drawn + ", " + n + ", 0)", UNKNOWN, x -> x.give(drawn, n, 0));
                scene.keeps(3, "give(" + drawn + ", " + n + ", 6)", UNKNOWN, x -> x.give(drawn, n, 6));
                scene.keeps(4, "box(" + drawn + ", " + n + ", last, 1)", UNKNOWN, x -> x.box(drawn, n, last, 1));
                scene.keeps(4, "box(" + drawn + ", 0, " + n + ", 1)", UNKNOWN, x -> x.box(drawn, 0, n, 1));
                scene.keeps(4, "box(" + drawn + ", " + n + ", it, 1)", UNKNOWN, x -> x.box(drawn, n, n, 1));
                scene.keeps(5, "at(" + drawn + ", " + n + ")", UNKNOWN, x -> x.at(drawn, n));
            }
            scene.keeps(14, "would(" + n + ", 0)", UNKNOWN, x -> x.would(n, 0));
            scene.keeps(14, "would(" + n + ", 6)", UNKNOWN, x -> x.would(n, 6));
            scene.keeps(16, "mayHand(" + n + ", 0)", UNKNOWN, x -> x.mayHand(n, 0));
            scene.keeps(17, "hand(" + n + ", 0)", UNKNOWN, x -> x.hand(n, 0));
        }
    }

    /** Where the sea is taken as 6, the first one refused is 7. */
    private static void owners(Scene scene) {
        int last = scene.size - 1;
        for (int n : outside(0, 6)) {
            for (boolean drawn : BOTH) {
                scene.keeps(3, "give(" + drawn + ", 0, " + n + ")", UNKNOWN, x -> x.give(drawn, 0, n));
                scene.keeps(4, "box(" + drawn + ", 0, last, " + n + ")", UNKNOWN, x -> x.box(drawn, 0, last, n));
            }
            scene.keeps(14, "would(0, " + n + ")", UNKNOWN, x -> x.would(0, n));
            scene.keeps(14, "would(last, " + n + ")", UNKNOWN, x -> x.would(last, n));
        }
    }

    private static void lands(Scene scene) {
        for (int n : outside(0, 5)) {
            for (boolean drawn : BOTH) {
                scene.keeps(7, "cells(" + drawn + ", " + n + ")", UNKNOWN, x -> x.cells(drawn, n));
                scene.keeps(12, "beside(" + drawn + ", " + n + ", 0)", UNKNOWN, x -> x.beside(drawn, n, 0));
                scene.keeps(12, "beside(" + drawn + ", 0, " + n + ")", UNKNOWN, x -> x.beside(drawn, 0, n));
                scene.keeps(12, "beside(" + drawn + ", " + n + ", it)", UNKNOWN, x -> x.beside(drawn, n, n));
            }
            scene.keeps(8, "heads(" + n + ", 5)", UNKNOWN, x -> x.heads(n, 5));
            scene.keeps(10, "due(" + n + ")", UNKNOWN, x -> x.due(n));
            scene.keeps(11, "parts(" + n + ")", UNKNOWN, x -> x.parts(n));
            scene.keeps(16, "mayHand(0, " + n + ")", UNKNOWN, x -> x.mayHand(0, n));
            scene.keeps(17, "hand(0, " + n + ")", UNKNOWN, x -> x.hand(0, n));
            scene.keeps(23, "carried(" + n + ")", UNKNOWN, x -> x.carried(n));
            scene.keeps(25, "tile(" + n + ")", UNKNOWN, x -> x.tile(n));
            scene.keeps(27, "votes(" + n + ", 0, 5)", UNKNOWN, x -> x.votes(n, 0, 5));
            scene.keeps(28, "won(" + n + ")", UNKNOWN, x -> x.won(n));
        }
    }

    private static void boxes(Scene scene) {
        int last = scene.size - 1;
        int under = under(scene);
        for (boolean drawn : BOTH) {
            scene.keeps(4, "one before in x", BAD, x -> x.box(drawn, 1, 0, 1));
            scene.keeps(4, "one before in y", BAD, x -> x.box(drawn, under, 0, 1));
            scene.keeps(4, "before in x, though behind in y", BAD, x -> x.box(drawn, 1, under, 1));
            scene.keeps(4, "before in y, though behind in x", BAD, x -> x.box(drawn, under, 1, 1));
            scene.keeps(4, "before in both", BAD, x -> x.box(drawn, last, 0, 1));
            scene.keeps(4, "before in both, of the sea", BAD, x -> x.box(drawn, last, 0, 6));
            scene.keeps(4, "a row's end to the next one's begin", BAD, x -> x.box(drawn, under - 1, under, 1));
        }
    }

    /** The cell under cell 0: the width, found by what lies beside it. */
    private static int under(Scene scene) {
        PeopleLands x = scene.make();
        x.box(true, 0, scene.size - 1, 6);
        x.give(true, 0, 0);
        for (int cell = 2; cell < scene.size; cell++) {
            x.give(true, cell, 1);
            if (x.beside(true, 0, 1) == 1) {
                return cell;
            }
            x.give(true, cell, 6);
        }
        return 1;
    }

    private static void heads(Scene scene) {
        for (int n : outside(0, 999)) {
            for (int land = 0; land < 6; land++) {
                int of = land;
                scene.keeps(8, "heads(" + of + ", " + n + ")", BAD, x -> x.heads(of, n));
                for (int side = 0; side < 3; side++) {
                    int to = side;
                    scene.keeps(27, "votes(" + of + ", " + to + ", " + n + ")", BAD, x -> x.votes(of, to, n));
                }
            }
        }
    }

    private static void ways(Scene scene) {
        for (int n : outside(0, 2)) {
            scene.keeps(9, "way(" + n + ")", BAD, x -> x.way(n));
        }
    }

    private static void sides(Scene scene) {
        for (int n : outside(0, 2)) {
            scene.keeps(27, "votes(0, " + n + ", 5)", UNKNOWN, x -> x.votes(0, n, 5));
            scene.keeps(27, "votes(5, " + n + ", 5)", UNKNOWN, x -> x.votes(5, n, 5));
            for (int by = 0; by < 3; by++) {
                int of = by;
                scene.keeps(29, "has(" + n + ", " + of + ")", UNKNOWN, x -> x.has(n, of));
            }
            scene.keeps(31, "turn(" + n + ")", UNKNOWN, x -> x.turn(n));
        }
    }

    private static void bys(Scene scene) {
        for (int n : outside(0, 2)) {
            for (int side = 0; side < 3; side++) {
                int of = side;
                scene.keeps(29, "has(" + of + ", " + n + ")", BAD, x -> x.has(of, n));
            }
            scene.keeps(30, "ahead(" + n + ")", BAD, x -> x.ahead(n));
        }
        for (int n : outside(0, 4)) {
            scene.keeps(32, "count(" + n + ")", BAD, x -> x.count(n));
        }
    }

    /** Of several refusals the one that is told first: UNKNOWN ahead of BAD, UNKNOWN ahead of STATE. */
    private static void unknownFirst(Scene scene) {
        int last = scene.size - 1;
        scene.keeps(4, "corner unknown, before in both", UNKNOWN, x -> x.box(true, last + 1, 0, 0));
        scene.keeps(4, "other unknown, before in both", UNKNOWN, x -> x.box(true, last, -1, 0));
        scene.keeps(4, "land unknown, before in both", UNKNOWN, x -> x.box(true, last, 0, 7));
        scene.keeps(4, "land unknown, before in both", UNKNOWN, x -> x.box(false, last, 0, -1));
        scene.keeps(8, "heads(6, 1000)", UNKNOWN, x -> x.heads(6, 1000));
        scene.keeps(8, "heads(-1, -1)", UNKNOWN, x -> x.heads(-1, -1));
        scene.keeps(12, "beside(true, 6, 6)", UNKNOWN, x -> x.beside(true, 6, 6));
        scene.keeps(12, "beside(false, -1, -1)", UNKNOWN, x -> x.beside(false, -1, -1));
        scene.keeps(14, "would(size, its own)", UNKNOWN, x -> x.would(last + 1, x.at(true, last)));
        scene.keeps(14, "would(-1, the sea)", UNKNOWN, x -> x.would(-1, 6));
        scene.keeps(17, "hand(0, the sea)", UNKNOWN, x -> x.hand(0, 6));
        scene.keeps(17, "hand(size, 6)", UNKNOWN, x -> x.hand(last + 1, 6));
        scene.keeps(27, "votes(6, 0, 1000)", UNKNOWN, x -> x.votes(6, 0, 1000));
        scene.keeps(27, "votes(0, 3, 1000)", UNKNOWN, x -> x.votes(0, 3, 1000));
        scene.keeps(27, "votes(6, 3, -1)", UNKNOWN, x -> x.votes(6, 3, -1));
        scene.keeps(29, "has(3, 3)", UNKNOWN, x -> x.has(3, 3));
        scene.keeps(29, "has(-1, -1)", UNKNOWN, x -> x.has(-1, -1));
        scene.keeps(31, "turn(3)", UNKNOWN, x -> x.turn(3));
    }

    private static void stateOfNeighbours() {
        for (Scene scene : Scene.all()) {
            for (int land = 0; land < 6; land++) {
                int it = land;
                scene.keeps(12, "beside(false, " + it + ", it)", STATE, x -> x.beside(false, it, it));
                scene.keeps(12, "beside(true, " + it + ", it)", STATE, x -> x.beside(true, it, it));
            }
        }
    }

    /** The ordinary drawing is 00012 / .0012 / 33345. */
    private static void stateOfChanges() {
        Scene scene = Scene.ordinary();
        scene.keeps(14, "to its own", STATE, x -> x.would(0, 0));
        scene.keeps(14, "to its own, the only one", STATE, x -> x.would(14, 5));
        scene.keeps(14, "of none to none", STATE, x -> x.would(5, 6));
        scene.keeps(14, "of none to a land that is not beside", STATE, x -> x.would(5, 1));
        scene.keeps(14, "of a land to one not beside", STATE, x -> x.would(0, 1));
        scene.keeps(14, "of a land to one by a corner alone", STATE, x -> x.would(7, 4));
        scene.keeps(14, "of a land to one by a corner alone", STATE, x -> x.would(14, 1));
        scene.keeps(14, "not around the row's begin", STATE, x -> x.would(10, 2));
        scene.keeps(14, "not around the row's end", STATE, x -> x.would(9, 3));
        scene.keeps(14, "not around the column's end", STATE, x -> x.would(3, 4));
        Scene empty = Scene.empty(4, 4);
        for (int cell = 0; cell < 16; cell++) {
            int of = cell;
            empty.keeps(14, "would(" + of + ", 6)", STATE, x -> x.would(of, 6));
        }
        Scene smallest = Scene.smallest();
        for (int land = 3; land < 6; land++) {
            int to = land;
            smallest.keeps(14, "of a land to one that has none", STATE, x -> x.would(3, to));
        }
    }

    private static void stateOfHanding() {
        Scene scene = Scene.ordinary();
        scene.keeps(17, "of none", STATE, x -> x.hand(5, 0));
        scene.keeps(17, "to its own", STATE, x -> x.hand(0, 0));
        scene.keeps(17, "not beside", STATE, x -> x.hand(0, 1));
        scene.keeps(17, "the last one of its land", STATE, x -> x.hand(14, 4));
        scene.keeps(17, "the last one of its land", STATE, x -> x.hand(13, 5));
        scene.keeps(17, "to a land without cells", STATE, x -> {
            x.give(true, 14, 4);
            int answer = x.hand(14, 5);
            x.give(true, 14, 5);
            return answer;
        });
        scene.keeps(16, "of none", 0, x -> x.mayHand(5, 0));
        scene.keeps(16, "the last one of its land", 0, x -> x.mayHand(14, 4));
        Scene full = Scene.full();
        for (int cell = 7; cell < 11; cell++) {
            int of = cell;
            full.keeps(17, "would cut its row", STATE, x -> x.hand(of, 0));
            full.keeps(17, "would cut its row", STATE, x -> x.hand(of, 2));
        }
        full.changes(17, "an end of its row", 1, x -> x.hand(6, 0));
        full.changes(17, "the other end of it", 1, x -> x.hand(11, 2));
    }

    private static void stateOfChains() {
        Scene.empty(4, 4).keeps(20, "pass()", STATE, x -> x.pass());
        Scene.empty(4, 4).keeps(18, "chain()", PeopleLands.NONE, x -> x.chain());
        Scene.full().keeps(20, "pass(), all have theirs", STATE, x -> x.pass());
        Scene.full().keeps(18, "chain(), all have theirs", PeopleLands.NONE, x -> x.chain());
        Scene.full().keeps(21, "settle(), all have theirs", 0, x -> x.settle());
        Scene.empty(4, 4).keeps(21, "settle()", 0, x -> x.settle());
    }

    private static void stateOfCarried() {
        Scene scene = Scene.ordinary();
        scene.keeps(23, "one less than in the map", STATE, x -> x.carried(1));
        scene.keeps(23, "one more than in the map", STATE, x -> x.carried(0));
        scene.keeps(23, "none in the map", STATE, x -> x.carried(5));
        scene.keeps(23, "none in the drawing", STATE, x -> {
            x.give(true, 13, 5);
            int answer = x.carried(4);
            x.give(true, 13, 4);
            return answer;
        });
        scene.keeps(23, "as many", 0, x -> x.carried(2));
        Scene.empty(6, 6).keeps(23, "none in both", 0, x -> x.carried(5));
    }

    private static void stateOfTurns() {
        for (int side = 0; side < 3; side++) {
            int to = side;
            Scene.empty(4, 4).keeps(31, "none is ahead: turn(" + to + ")", STATE, x -> x.turn(to));
        }
        Scene.full().keeps(31, "the one that is ahead", STATE, x -> x.turn(x.ahead(1)));
        Scene.ordinary().keeps(31, "the one that is ahead", STATE, x -> x.turn(x.ahead(1)));
        Scene.smallest().keeps(31, "the one that is ahead", STATE, x -> x.turn(x.ahead(1)));
    }

    private static void noneChangesNothing() {
        Scene empty = Scene.empty(2, 6);
        empty.keeps(15, "mend()", PeopleLands.NONE, x -> x.mend());
        empty.keeps(19, "link(0)", PeopleLands.NONE, x -> x.link(0));
        empty.keeps(25, "tile(0)", PeopleLands.NONE, x -> x.tile(0));
        empty.keeps(28, "won(0)", PeopleLands.NONE, x -> x.won(0));
        empty.keeps(30, "ahead(1)", PeopleLands.NONE, x -> x.ahead(1));
        for (Scene scene : Scene.all()) {
            for (int n : new int[] {-1, 6, LEAST, LARGEST}) {
                scene.keeps(19, "link(" + n + ")", PeopleLands.NONE, x -> x.link(n));
            }
        }
    }
}
