import java.util.Random;

/** All promises: long runs of calls on the class and on the model side by side, the same every time. */
public final class ModelTest {
    private static final int RUNS = 240;
    private static final int CALLS = 512;

    private final Random random;
    private final PeopleLands x = new PeopleLands();
    private final Model m = new Model();
    private final int lands;
    private final int most;

    private ModelTest(int seed) {
        random = new Random(seed);
        lands = 2 + random.nextInt(5);
        most = random.nextInt(3) == 0 ? 999 : random.nextInt(2) == 0 ? 12 : 3;
    }

    public static void main(String[] args) {
        for (int seed = 0; seed < RUNS; seed++) {
            new ModelTest(seed).run();
        }
        Check.end("ModelTest");
    }

    private void run() {
        layOut();
        for (int i = 60; i < CALLS; i++) {
            int kind = random.nextInt(40);
            if (kind < 16) {
                change(kind);
            } else {
                ask(kind);
            }
            if (i % 16 == 0) {
                compareCells();
            }
        }
        compareCells();
    }

    /** A map that is mostly land, traced and peopled. */
    private void layOut() {
        int w = 2 + random.nextInt(5);
        int h = 2 + random.nextInt(5);
        Check.due(2, "field", x.field(w, h), m.field(w, h));
        for (int i = 0; i < 8; i++) {
            box(false);
        }
        Check.due(6, "trace", x.trace(), m.trace());
        for (int land = 0; land < lands; land++) {
            heads(land);
            for (int side = 0; side < 3; side++) {
                votes(land, side);
            }
        }
    }

    private void change(int kind) {
        switch (kind) {
            case 0:
                if (random.nextInt(25) == 0) {
                    layOut();
                }
                break;
            case 1:
            case 2: {
                boolean drawn = kind == 1;
                int cell = cell();
                int land = owner();
                Check.due(3, "give", x.give(drawn, cell, land), m.give(drawn, cell, land));
                break;
            }
            case 3:
                box(random.nextBoolean());
                break;
            case 4:
                if (random.nextInt(4) == 0) {
                    Check.due(6, "trace", x.trace(), m.trace());
                }
                break;
            case 5:
            case 6:
                heads(random.nextInt(6));
                break;
            case 7: {
                int was = m.way;
                m.way = random.nextInt(3);
                Check.due(9, "way", x.way(m.way), was);
                break;
            }
            case 8:
            case 9:
                Check.due(15, "mend", x.mend(), m.mend());
                break;
            case 10:
            case 11: {
                int cell = cell();
                int land = random.nextInt(lands);
                Check.due(17, "hand", x.hand(cell, land), m.hand(cell, land));
                break;
            }
            case 12:
                Check.due(20, "pass", x.pass(), m.pass());
                break;
            case 13:
                if (random.nextInt(3) == 0) {
                    Check.due(21, "settle", x.settle(), m.settle());
                }
                break;
            default:
                votes(random.nextInt(6), random.nextInt(3));
                break;
        }
    }

    private void ask(int kind) {
        int land = random.nextInt(6);
        int other = random.nextInt(6);
        int side = random.nextInt(3);
        int by = random.nextInt(3);
        int cell = cell();
        boolean drawn = random.nextBoolean();
        switch (kind) {
            case 16: Check.due(5, "at", x.at(drawn, cell), m.at(drawn, cell)); break;
            case 17: Check.due(7, "cells", x.cells(drawn, land), m.cells(drawn, land)); break;
            case 18: Check.due(10, "due", x.due(land), m.due(land)); break;
            case 19: Check.due(11, "parts", x.parts(land), m.parts(land)); break;
            case 20: Check.due(12, "beside", x.beside(drawn, land, other), m.beside(drawn, land, other)); break;
            case 21: Check.due(13, "faults", x.faults(), m.faults()); break;
            case 22:
            case 23: {
                int to = owner();
                Check.due(14, "would", x.would(cell, to), m.would(cell, to));
                break;
            }
            case 24:
            case 25: Check.due(16, "mayHand", x.mayHand(cell, land), m.mayHand(cell, land)); break;
            case 26: Check.due(18, "chain", x.chain(), m.chain()); break;
            case 27:
            case 28: {
                int i = random.nextInt(7) - 1;
                Check.due(19, "link", x.link(i), m.link(i));
                break;
            }
            case 29: Check.due(22, "changed", x.changed(), m.changed()); break;
            case 30:
            case 31: Check.due(23, "carried", x.carried(land), m.carried(land)); break;
            case 32: Check.due(24, "off", x.off(), m.off()); break;
            case 33:
            case 34: Check.due(25, "tile", x.tile(land), m.tile(land)); break;
            case 35: Check.due(26, "kept", x.kept(), m.kept()); break;
            case 36: Check.due(28, "won", x.won(land), m.won(land)); break;
            case 37: Check.due(29, "has", x.has(side, by), m.has(side, by)); break;
            case 38: Check.due(31, "turn", x.turn(side), m.turn(side)); break;
            default: {
                int what = random.nextInt(5);
                Check.due(32, "count", x.count(what), m.count(what));
                Check.due(30, "ahead", x.ahead(by), m.ahead(by));
                break;
            }
        }
    }

    private void box(boolean drawn) {
        int cell = cell();
        int other = cell();
        int land = owner();
        Check.due(4, "box", x.box(drawn, cell, other, land), m.box(drawn, cell, other, land));
    }

    private void heads(int land) {
        int was = m.heads[land];
        m.heads[land] = random.nextInt(most + 1);
        Check.due(8, "heads", x.heads(land, m.heads[land]), was);
    }

    private void votes(int land, int side) {
        int was = m.votes[land][side];
        m.votes[land][side] = random.nextInt(most + 1);
        Check.due(27, "votes", x.votes(land, side, m.votes[land][side]), was);
    }

    private void compareCells() {
        for (int cell = 0; cell < m.count(0); cell++) {
            Check.due(5, "at(false, " + cell + ")", x.at(false, cell), m.at(false, cell));
            Check.due(5, "at(true, " + cell + ")", x.at(true, cell), m.at(true, cell));
        }
    }

    private int cell() {
        return random.nextInt(m.count(0));
    }

    private int owner() {
        return random.nextInt(8) == 0 ? 6 : random.nextInt(lands);
    }
}
