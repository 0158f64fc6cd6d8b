import java.util.Arrays;

/** How an object stands, to be made again as often as it is asked for. */
final class Scene {
    /** One call, so that it can be made on an object of each scene. */
    interface Call {
        int on(PeopleLands x);
    }

    final String name;
    final int size;
    private final String[] map;
    private final String[] drawing;
    private final int way;
    private final int[] heads;
    private final int[][] votes;
    private final String tour;

    Scene(String name, String[] map, String[] drawing, int way, int[] heads, int[][] votes) {
        this.name = name;
        this.size = map.length * map[0].length();
        this.map = map;
        this.drawing = drawing;
        this.way = way;
        this.heads = heads;
        this.votes = votes;
        this.tour = Tour.of(make());
    }

    PeopleLands make() {
        PeopleLands x = Check.mapped(map);
        Check.draw(x, true, drawing);
        x.way(way);
        Check.heads(x, heads);
        for (int land = 0; land < votes.length; land++) {
            Check.votes(x, land, votes[land]);
        }
        return x;
    }

    /** The call answers what is due, and the object stands as if it had never been made. */
    void keeps(int promise, String call, int due, Call it) {
        PeopleLands x = make();
        Check.due(promise, name + ": " + call, it.on(x), due);
        Check.holds("promise " + promise + ": " + name + ": " + call + " changes nothing", Tour.of(x).equals(tour));
    }

    /** The call answers what is due; behind it the object stands otherwise. */
    void changes(int promise, String call, int due, Call it) {
        PeopleLands x = make();
        Check.due(promise, name + ": " + call, it.on(x), due);
        Check.holds("promise " + promise + ": " + name + ": " + call + " changes something", !Tour.of(x).equals(tour));
    }

    /** Nothing but the sea, nobody: what a new object is, for each size of the field. */
    static Scene empty(int w, int h) {
        String[] rows = new String[h];
        Arrays.fill(rows, ".".repeat(w));
        return new Scene("empty " + w + " by " + h, rows, rows, 0, new int[6], new int[0][]);
    }

    static Scene smallest() {
        return new Scene("smallest", new String[] {"01", "2."}, new String[] {"00", "12"}, 1,
                new int[] {3, 999, 0, 0, 0, 1}, new int[][] {{1, 0, 0}, {0, 999, 998}, {2, 2, 2}});
    }

    static Scene ordinary() {
        String[] rows = {"00112", "00.12", "33444"};
        String[] drawn = {"00012", ".0012", "33345"};
        int[][] votes = {{9, 4, 0}, {3, 5, 5}, {0, 0, 7}, {20, 21, 3}, {1, 0, 0}, {0, 6, 2}};
        return new Scene("ordinary", rows, drawn, 2, new int[] {40, 7, 120, 33, 0, 9}, votes);
    }

    static Scene full() {
        String[] rows = {"012345", "012345", "012345", "012345", "012345", "012345"};
        String[] drawn = {"000000", "111111", "222222", "333333", "444444", "555555"};
        return new Scene("full", rows, drawn, 0, new int[] {999, 999, 999, 999, 999, 999},
                new int[][] {{999, 999, 999}, {999, 0, 0}, {0, 999, 0}, {0, 0, 999}, {0, 0, 998}, {5, 5, 3}});
    }

    static Scene[] all() {
        return new Scene[] {empty(4, 4), empty(2, 6), smallest(), ordinary(), full()};
    }
}
