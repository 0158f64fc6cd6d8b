import java.util.Random;

/** All promises: long runs of calls on the class and on the model side by side, the same every time. */
public final class ModelTest {
    private static final int RUNS = 600;
    /** What is answered behind the 512th call of an object is free; all cells are compared at the end. */
    private static final int CALLS = 512 - 2 * 36;
    /** A field laid out anew, or all cells compared. */
    private static final int MOST_OF_A_STEP = 2 * 36;
    private static final int[] WILD = {
        -1, -2, -6, -36, 7, 8, 36, 37, 64, 1000, 65536, Integer.MAX_VALUE, Integer.MIN_VALUE,
    };

    private final Random random;
    private final PeopleLands x = new PeopleLands();
    private final Model m = new Model();
    private final int lands;
    private final int most;
    private int calls = 0;

    private ModelTest(int seed) {
        random = new Random(seed);
        lands = 2 + random.nextInt(5);
        most = random.nextInt(3) == 0 ? 999 : random.nextInt(2) == 0 ? 12 : 3;
    }

    public static void main(String[] args) {
        for (int seed = 0; seed < RUNS; seed++) {
            new ModelTest(seed).run();
        }
        Check.end("ModelTest");
    }

    private void run() {
        layOut();
        for (int i = 0; i < CALLS && calls < CALLS - MOST_OF_A_STEP; i++) {
            int kind = random.nextInt(42);
            if (kind < 16) {
                change(kind);
            } else if (kind < 40) {
                ask(kind);
            } else {
                refused(random.nextInt(12), WILD[random.nextInt(WILD.length)]);
            }
            if (i == 150) {
                compareCells();
            }
        }
        compareCells();
    }

    private void same(int promise, String call, int got, int want) {
        calls++;
        Check.due(promise, call, got, want);
    }

    /** The model hears nothing of these: what follows shows that they change nothing. */
    private void refused(int kind, int wild) {
        int cell = cell();
        int land = random.nextInt(6);
        boolean drawn = random.nextBoolean();
        switch (kind) {
            case 0: same(2, "field", x.field(wild, 4), PeopleLands.BAD); break;
            case 1: same(2, "field", x.field(4, wild), PeopleLands.BAD); break;
            case 2: same(3, "give", x.give(drawn, cell, wild), PeopleLands.UNKNOWN); break;
            case 3: same(3, "give", x.give(drawn, m.count(0), land), PeopleLands.UNKNOWN); break;
            case 4: same(4, "box", x.box(drawn, cell, cell, wild), PeopleLands.UNKNOWN); break;
            case 5: same(4, "box", x.box(drawn, cell, m.count(0), land), PeopleLands.UNKNOWN); break;
            case 6: same(8, "heads", x.heads(wild, 1), PeopleLands.UNKNOWN); break;
            case 7: same(8, "heads", x.heads(land, random.nextBoolean() ? -1 : 1000), PeopleLands.BAD); break;
            case 8: same(9, "way", x.way(wild), PeopleLands.BAD); break;
            case 9: same(17, "hand", x.hand(cell, random.nextBoolean() ? 6 : wild), PeopleLands.UNKNOWN); break;
            case 10: same(27, "votes", x.votes(land, wild, 1), PeopleLands.UNKNOWN); break;
            default: same(27, "votes", x.votes(land, 0, random.nextBoolean() ? -1 : 1000), PeopleLands.BAD); break;
        }
    }

    /** A map that is mostly land, traced and peopled. */
    private void layOut() {
        int w = 2 + random.nextInt(5);
        int h = 2 + random.nextInt(5);
        same(2, "field", x.field(w, h), m.field(w, h));
        for (int i = 0; i < 8; i++) {
            box(false);
        }
        same(6, "trace", x.trace(), m.trace());
        for (int land = 0; land < lands; land++) {
            heads(land);
            for (int side = 0; side < 3; side++) {
                votes(land, side);
            }
        }
    }

    private void change(int kind) {
        switch (kind) {
            case 0:
                if (random.nextInt(25) == 0) {
                    layOut();
                }
                break;
            case 1:
            case 2: {
                boolean drawn = kind == 1;
                int cell = cell();
                int land = owner();
                same(3, "give", x.give(drawn, cell, land), m.give(drawn, cell, land));
                break;
            }
            case 3:
                box(random.nextBoolean());
                break;
            case 4:
                if (random.nextInt(4) == 0) {
                    same(6, "trace", x.trace(), m.trace());
                }
                break;
            case 5:
            case 6:
                heads(random.nextInt(6));
                break;
            case 7: {
                int was = m.way;
                m.way = random.nextInt(3);
                same(9, "way", x.way(m.way), was);
                break;
            }
            case 8:
            case 9:
                same(15, "mend", x.mend(), m.mend());
                break;
            case 10:
            case 11: {
                int cell = cell();
                int land = random.nextInt(lands);
                same(17, "hand", x.hand(cell, land), m.hand(cell, land));
                break;
            }
            case 12:
                same(20, "pass", x.pass(), m.pass());
                break;
            case 13:
                if (random.nextInt(3) == 0) {
                    same(21, "settle", x.settle(), m.settle());
                }
                break;
            default:
                votes(random.nextInt(6), random.nextInt(3));
                break;
        }
    }

    private void ask(int kind) {
        int land = random.nextInt(6);
        int other = random.nextInt(6);
        int side = random.nextInt(3);
        int by = random.nextInt(3);
        int cell = cell();
        boolean drawn = random.nextBoolean();
        switch (kind) {
            case 16: same(5, "at", x.at(drawn, cell), m.at(drawn, cell)); break;
            case 17: same(7, "cells", x.cells(drawn, land), m.cells(drawn, land)); break;
            case 18: same(10, "due", x.due(land), m.due(land)); break;
            case 19: same(11, "parts", x.parts(land), m.parts(land)); break;
            case 20: same(12, "beside", x.beside(drawn, land, other), m.beside(drawn, land, other)); break;
            case 21: same(13, "faults", x.faults(), m.faults()); break;
            case 22:
            case 23: {
                int to = owner();
                same(14, "would", x.would(cell, to), m.would(cell, to));
                break;
            }
            case 24:
            case 25: same(16, "mayHand", x.mayHand(cell, land), m.mayHand(cell, land)); break;
            case 26: same(18, "chain", x.chain(), m.chain()); break;
            case 27:
            case 28: {
                int i = random.nextInt(7) - 1;
                same(19, "link", x.link(i), m.link(i));
                break;
            }
            case 29: same(22, "changed", x.changed(), m.changed()); break;
            case 30:
            case 31: same(23, "carried", x.carried(land), m.carried(land)); break;
            case 32: same(24, "off", x.off(), m.off()); break;
            case 33:
            case 34: same(25, "tile", x.tile(land), m.tile(land)); break;
            case 35: same(26, "kept", x.kept(), m.kept()); break;
            case 36: same(28, "won", x.won(land), m.won(land)); break;
            case 37: same(29, "has", x.has(side, by), m.has(side, by)); break;
            case 38: same(31, "turn", x.turn(side), m.turn(side)); break;
            default: {
                int what = random.nextInt(5);
                same(32, "count", x.count(what), m.count(what));
                same(30, "ahead", x.ahead(by), m.ahead(by));
                break;
            }
        }
    }

    private void box(boolean drawn) {
        int cell = cell();
        int other = cell();
        int land = owner();
        same(4, "box", x.box(drawn, cell, other, land), m.box(drawn, cell, other, land));
    }

    private void heads(int land) {
        int was = m.heads[land];
        m.heads[land] = random.nextInt(most + 1);
        same(8, "heads", x.heads(land, m.heads[land]), was);
    }

    private void votes(int land, int side) {
        int was = m.votes[land][side];
        m.votes[land][side] = random.nextInt(most + 1);
        same(27, "votes", x.votes(land, side, m.votes[land][side]), was);
    }

    private void compareCells() {
        for (int cell = 0; cell < m.count(0); cell++) {
            same(5, "at(false, " + cell + ")", x.at(false, cell), m.at(false, cell));
            same(5, "at(true, " + cell + ")", x.at(true, cell), m.at(true, cell));
        }
    }

    private int cell() {
        return random.nextInt(m.count(0));
    }

    private int owner() {
        return random.nextInt(8) == 0 ? 6 : random.nextInt(lands);
    }
}
