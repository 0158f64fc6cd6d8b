/** Promises 8 to 10: heads, and what lands are due by them. */
public final class HeadsTest {
    public static void main(String[] args) {
        heads();
        way();
        dueByRests();
        dueByDivisors();
        dueAtItsEdges();
        Check.end("HeadsTest");
    }

    private static void heads() {
        PeopleLands x = new PeopleLands();
        Check.due(8, "heads(0, 999)", x.heads(0, 999), 0);
        Check.due(8, "heads(0, 0)", x.heads(0, 0), 999);
        Check.due(8, "heads(5, 12)", x.heads(5, 12), 0);
        Check.due(8, "heads(5, 1000)", x.heads(5, 1000), PeopleLands.BAD);
        Check.due(8, "heads(5, -1)", x.heads(5, -1), PeopleLands.BAD);
        Check.due(8, "heads(5, least)", x.heads(5, Integer.MIN_VALUE), PeopleLands.BAD);
        for (int n : Check.WILD) {
            Check.due(8, "heads(" + n + ", 5)", x.heads(n, 5), PeopleLands.UNKNOWN);
            Check.due(8, "heads(" + n + ", 1000)", x.heads(n, 1000), PeopleLands.UNKNOWN);
        }
        Check.due(8, "refused: count(3)", x.count(3), 12);
        Check.due(8, "heads(5, 12) again", x.heads(5, 12), 12);
    }

    private static void way() {
        PeopleLands x = new PeopleLands();
        Check.due(9, "way(2)", x.way(2), 0);
        int[] bad = {-1, 3, 4, Integer.MAX_VALUE, Integer.MIN_VALUE};
        for (int n : bad) {
            Check.due(9, "way(" + n + ")", x.way(n), PeopleLands.BAD);
        }
        Check.due(9, "way(1)", x.way(1), 2);
        Check.due(9, "way(0)", x.way(0), 1);
        Check.due(9, "way(0) again", x.way(0), 0);
    }

    private static void dueByRests() {
        PeopleLands x = Check.mapped("00000", "11111");
        Check.isDue("no heads", x, 0, 0, 0, 0, 0, 0);
        Check.heads(x, 47, 16, 16, 12, 6, 3);
        Check.isDue("rests 70 60 60 20 60 30", x, 5, 2, 2, 1, 0, 0);
        Check.heads(x, 1, 1, 1, 1, 1, 1);
        Check.isDue("like rests: the least lands", x, 2, 2, 2, 2, 1, 1);
        Check.heads(x, 0, 1, 1, 1, 0, 0);
        Check.isDue("like rests, none without heads", x, 0, 4, 3, 3, 0, 0);
        Check.heads(x, 0, 0, 0, 0, 0, 1);
        Check.isDue("all to one, with no cells of its own", x, 0, 0, 0, 0, 0, 10);
        Check.heads(x, 999, 999, 999, 999, 999, 999);
        Check.isDue("the most heads", x, 2, 2, 2, 2, 1, 1);
        Check.heads(x, 1, 1, 1, 1, 1, 995);
        Check.isDue("a rest of one", x, 0, 0, 0, 0, 0, 10);
        x.give(false, 0, 6);
        Check.isDue("nine cells", x, 0, 0, 0, 0, 0, 9);
        Check.draw(x, true, "55555", "55555");
        Check.isDue("the drawing has no say", x, 0, 0, 0, 0, 0, 9);
    }

    private static void dueByDivisors() {
        PeopleLands x = Check.mapped("0000", "1111");
        Check.heads(x, 100, 80, 30, 20, 0, 0);
        Check.isDue("by rests 110 180 10 160", x, 3, 3, 1, 1, 0, 0);
        x.way(1);
        Check.isDue("by 1 2 3", x, 4, 3, 1, 0, 0, 0);
        x.way(2);
        Check.isDue("by 1 3 5", x, 3, 3, 1, 1, 0, 0);
        x = Check.mapped("00000", "11111");
        x.way(1);
        Check.isDue("no heads", x, 0, 0, 0, 0, 0, 0);
        Check.heads(x, 52, 24, 23);
        Check.isDue("by 1 2 3", x, 6, 2, 2, 0, 0, 0);
        x.way(2);
        Check.isDue("by 1 3 5", x, 5, 3, 2, 0, 0, 0);
        Check.heads(x, 0, 0, 0);
        Check.isDue("no heads", x, 0, 0, 0, 0, 0, 0);
        Check.heads(x, 1, 1, 1, 1, 1, 1);
        Check.isDue("like ones: the least", x, 2, 2, 2, 2, 1, 1);
        x.way(1);
        Check.isDue("like ones: the least", x, 2, 2, 2, 2, 1, 1);
        Check.heads(x, 2, 4, 6, 0, 0, 0);
        x.give(false, 0, 6);
        x.give(false, 1, 6);
        x.give(false, 2, 6);
        x.give(false, 3, 6);
        Check.isDue("6 4 3 2 2 2: of the like three the least", x, 1, 2, 3, 0, 0, 0);
        x.give(false, 4, 6);
        Check.isDue("6 4 3 2 2: of the like three the two least", x, 1, 2, 2, 0, 0, 0);
    }

    private static void dueAtItsEdges() {
        PeopleLands x = Check.mapped("000", "111");
        Check.heads(x, 0, 0, 0, 0, 1, 0);
        for (int way = 0; way < 3; way++) {
            x.way(way);
            Check.isDue("one head in all, way " + way, x, 0, 0, 0, 0, 6, 0);
        }
        x = new PeopleLands();
        Check.heads(x, 5, 5, 5, 5, 5, 5);
        for (int way = 0; way < 3; way++) {
            x.way(way);
            Check.isDue("a map of the sea", x, 0, 0, 0, 0, 0, 0);
        }
        for (int n : Check.WILD) {
            Check.due(10, "due(" + n + ")", x.due(n), PeopleLands.UNKNOWN);
        }
        x.field(6, 6);
        x.box(false, 0, 35, 3);
        Check.heads(x, 999, 998, 0, 1, 0, 999);
        x.way(0);
        Check.isDue("36 by rests", x, 12, 12, 0, 0, 0, 12);
        x.way(1);
        Check.isDue("36 by 1 2 3", x, 12, 12, 0, 0, 0, 12);
        x.way(2);
        Check.isDue("36 by 1 3 5", x, 12, 12, 0, 0, 0, 12);
    }
}
