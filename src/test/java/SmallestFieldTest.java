/**
 * Promises 10 to 26: every map and every drawing of the smallest field by three lands and the sea,
 * on the class and on the model side by side; heads and ways go round with them.
 */
public final class SmallestFieldTest {
    private static final int EDGE = 2;
    private static final int CELLS = EDGE * EDGE;
    private static final int[] OWNERS = {0, 1, 2, 6};
    private static final int ALL = 256;
    private static final int[][] HEADS = {{1, 1, 1}, {3, 1, 0}, {0, 2, 1}, {1, 0, 4}, {0, 0, 0}};

    private final PeopleLands x = new PeopleLands();
    private final Model m = new Model();

    public static void main(String[] args) {
        for (int map = 0; map < ALL; map++) {
            for (int drawing = 0; drawing < ALL; drawing++) {
                new SmallestFieldTest(map, drawing).compare(drawing);
            }
        }
        Check.end("SmallestFieldTest");
    }

    private SmallestFieldTest(int map, int drawing) {
        x.field(EDGE, EDGE);
        m.field(EDGE, EDGE);
        draw(false, map);
        draw(true, drawing);
        m.way = (map + drawing) % 3;
        x.way(m.way);
        int[] heads = HEADS[(map + 3 * drawing) % HEADS.length];
        for (int land = 0; land < heads.length; land++) {
            m.heads[land] = heads[land];
            x.heads(land, heads[land]);
        }
    }

    private void draw(boolean drawn, int code) {
        int rest = code;
        for (int cell = 0; cell < CELLS; cell++) {
            int owner = OWNERS[rest % OWNERS.length];
            x.give(drawn, cell, owner);
            m.give(drawn, cell, owner);
            rest /= OWNERS.length;
        }
    }

    private void compare(int drawing) {
        askOfLands();
        askOfAll();
        Check.due(15, "mend()", x.mend(), m.mend());
        sameDrawing(15);
        draw(true, drawing);
        Check.due(20, "pass()", x.pass(), m.pass());
        sameDrawing(20);
        draw(true, drawing);
        Check.due(21, "settle()", x.settle(), m.settle());
        sameDrawing(21);
    }

    private void askOfLands() {
        for (int land = 0; land < 3; land++) {
            int next = (land + 1) % 3;
            Check.due(10, "due", x.due(land), m.due(land));
            Check.due(11, "parts", x.parts(land), m.parts(land));
            Check.due(12, "beside", x.beside(true, land, next), m.beside(true, land, next));
            Check.due(16, "mayHand", x.mayHand(land, next), m.mayHand(land, next));
            Check.due(23, "carried", x.carried(land), m.carried(land));
            Check.due(25, "tile", x.tile(land), m.tile(land));
        }
    }

    private void askOfAll() {
        Check.due(13, "faults()", x.faults(), m.faults());
        Check.due(18, "chain()", x.chain(), m.chain());
        for (int i = 0; i < 4; i++) {
            Check.due(19, "link", x.link(i), m.link(i));
        }
        for (int cell = 0; cell < CELLS; cell++) {
            for (int owner : OWNERS) {
                Check.due(14, "would", x.would(cell, owner), m.would(cell, owner));
            }
        }
        Check.due(22, "changed()", x.changed(), m.changed());
        Check.due(24, "off()", x.off(), m.off());
        Check.due(26, "kept()", x.kept(), m.kept());
    }

    private void sameDrawing(int promise) {
        for (int cell = 0; cell < CELLS; cell++) {
            Check.due(promise, "at(true, " + cell + ")", x.at(true, cell), m.at(true, cell));
        }
    }
}
