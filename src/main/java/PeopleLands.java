import java.util.Arrays;

/**
 * Lands drawn as large as their people: a map by acres, and a drawing of it in which each land
 * is due cells by its share of heads. The document's terms are kept as names: cells, lands, the
 * sea (told as 6), sides.
 *
 * <p>A set of cells is one long, bit y * width + x for each cell: a field has 36 at most.
 */
public final class PeopleLands {
    public static final int UNKNOWN = -1, BAD = -2, STATE = -3, NONE = -9;

    private static final int LEAST_EDGE = 2, MOST_EDGE = 6, FIRST_EDGE = 4;
    private static final int MOST_CELLS = 36;
    private static final int LANDS = 6, SEA = 6;
    private static final int SIDES = 3;
    private static final int MOST_PEOPLE = 999;
    private static final int WAYS = 3;
    private static final int MOST_PASSES = 40;
    private static final int BY_ACRES = 0, BY_CELLS = 1, BY_HEADS = 2;

    private final Ground ground;
    private final Sheet map;
    private final Sheet drawing;
    private final Census census;
    private final Handing handing;
    private final Matching matching;
    private final Tiles tiles;
    private final Poll poll;

    public PeopleLands() {
        ground = new Ground(FIRST_EDGE, FIRST_EDGE);
        map = new Sheet(ground);
        drawing = new Sheet(ground);
        census = new Census();
        handing = new Handing(ground, drawing, census);
        matching = new Matching();
        tiles = new Tiles(ground, matching);
        poll = new Poll();
    }

    // ---- the map, the drawing

    public int field(int w, int h) {
        if (!isEdge(w) || !isEdge(h)) {
            return BAD;
        }
        ground.lay(w, h);
        map.clear();
        drawing.clear();
        return ground.size();
    }

    public int give(boolean drawn, int cell, int land) {
        if (!ground.knows(cell) || !isOwner(land)) {
            return UNKNOWN;
        }
        Sheet sheet = sheetOf(drawn);
        int was = sheet.ownerOf(cell);
        sheet.put(1L << cell, land);
        return was;
    }

    public int box(boolean drawn, int cell, int other, int land) {
        if (!ground.knows(cell) || !ground.knows(other) || !isOwner(land)) {
            return UNKNOWN;
        }
        if (ground.columnOf(other) < ground.columnOf(cell) || ground.rowOf(other) < ground.rowOf(cell)) {
            return BAD;
        }
        Sheet sheet = sheetOf(drawn);
        long boxed = ground.boxed(cell, other);
        int fresh = Long.bitCount(boxed & ~sheet.cellsOf(land));
        sheet.put(boxed, land);
        return fresh;
    }

    public int at(boolean drawn, int cell) {
        if (!ground.knows(cell)) {
            return UNKNOWN;
        }
        return sheetOf(drawn).ownerOf(cell);
    }

    public int trace() {
        int fresh = Long.bitCount(unlikeCells());
        drawing.copy(map);
        return fresh;
    }

    public int cells(boolean drawn, int land) {
        if (!isLand(land)) {
            return UNKNOWN;
        }
        return sheetOf(drawn).sizeOf(land);
    }

    // ---- heads

    public int heads(int land, int n) {
        if (!isLand(land)) {
            return UNKNOWN;
        }
        if (!isPeople(n)) {
            return BAD;
        }
        int was = census.heads[land];
        census.heads[land] = n;
        return was;
    }

    public int way(int v) {
        if (v < 0 || v >= WAYS) {
            return BAD;
        }
        int was = census.way;
        census.way = v;
        return was;
    }

    public int due(int land) {
        if (!isLand(land)) {
            return UNKNOWN;
        }
        shareOut();
        return census.due[land];
    }

    // ---- faults

    public int parts(int land) {
        if (!isLand(land)) {
            return UNKNOWN;
        }
        return ground.partsOf(drawing.cellsOf(land));
    }

    public int beside(boolean drawn, int a, int b) {
        if (!isLand(a) || !isLand(b)) {
            return UNKNOWN;
        }
        if (a == b) {
            return STATE;
        }
        return sheetOf(drawn).areNeighbours(a, b) ? 1 : 0;
    }

    public int faults() {
        shareOut();
        return faultsAgainst(map.neighbourPairs());
    }

    public int would(int cell, int land) {
        if (!ground.knows(cell) || !isOwner(land)) {
            return UNKNOWN;
        }
        if (!isChange(cell, land)) {
            return STATE;
        }
        shareOut();
        return faultsBehind(cell, land, map.neighbourPairs());
    }

    public int mend() {
        shareOut();
        long mapPairs = map.neighbourPairs();
        int fewest = faultsAgainst(mapPairs);
        int bestCell = NONE;
        int bestOwner = NONE;
        for (int cell = 0; cell < ground.size(); cell++) {
            for (int owner = 0; owner <= SEA; owner++) {
                if (isChange(cell, owner)) {
                    int behind = faultsBehind(cell, owner, mapPairs);
                    if (behind < fewest) {
                        fewest = behind;
                        bestCell = cell;
                        bestOwner = owner;
                    }
                }
            }
        }
        if (bestCell == NONE) {
            return NONE;
        }
        drawing.put(1L << bestCell, bestOwner);
        return 10 * bestCell + bestOwner;
    }

    // ---- handed on

    public int mayHand(int cell, int land) {
        if (!ground.knows(cell) || !isLand(land)) {
            return UNKNOWN;
        }
        return handing.allows(cell, land) ? 1 : 0;
    }

    public int hand(int cell, int land) {
        if (!ground.knows(cell) || !isLand(land)) {
            return UNKNOWN;
        }
        if (!handing.allows(cell, land)) {
            return STATE;
        }
        int was = drawing.ownerOf(cell);
        drawing.put(1L << cell, land);
        return was;
    }

    public int chain() {
        shareOut();
        int length = handing.findChain();
        return length == 0 ? NONE : length;
    }

    public int link(int i) {
        shareOut();
        int length = handing.findChain();
        return i < 0 || i >= length ? NONE : handing.links[i];
    }

    public int pass() {
        shareOut();
        int length = handing.findChain();
        return length == 0 ? STATE : handing.passAlong(length);
    }

    public int settle() {
        shareOut();
        for (int passed = 0; passed < MOST_PASSES; passed++) {
            int length = handing.findChain();
            if (length == 0) {
                return passed;
            }
            handing.passAlong(length);
        }
        return MOST_PASSES;
    }

    public int changed() {
        return Long.bitCount(unlikeCells() & map.landCells());
    }

    // ---- carried, tiles

    public int carried(int land) {
        if (!isLand(land)) {
            return UNKNOWN;
        }
        if (map.sizeOf(land) != drawing.sizeOf(land)) {
            return STATE;
        }
        return leastSteps(map.cellsOf(land), drawing.cellsOf(land));
    }

    public int off() {
        return tiles.findBest(map);
    }

    public int tile(int land) {
        if (!isLand(land)) {
            return UNKNOWN;
        }
        if (map.sizeOf(land) == 0) {
            return NONE;
        }
        tiles.findBest(map);
        return lowestCell(tiles.sheet.cellsOf(land));
    }

    public int kept() {
        tiles.findBest(map);
        return Long.bitCount(map.neighbourPairs() & tiles.sheet.neighbourPairs());
    }

    // ---- votes

    public int votes(int land, int side, int n) {
        if (!isLand(land) || !isSide(side)) {
            return UNKNOWN;
        }
        if (!isPeople(n)) {
            return BAD;
        }
        int was = poll.votesOf(land, side);
        poll.setVotes(land, side, n);
        return was;
    }

    public int won(int land) {
        if (!isLand(land)) {
            return UNKNOWN;
        }
        return poll.winnerOf(land);
    }

    public int has(int side, int by) {
        if (!isSide(side)) {
            return UNKNOWN;
        }
        if (by < BY_ACRES || by > BY_HEADS) {
            return BAD;
        }
        return tally(side, by);
    }

    public int ahead(int by) {
        if (by < BY_ACRES || by > BY_HEADS) {
            return BAD;
        }
        return leaderBy(by);
    }

    public int turn(int side) {
        if (!isSide(side)) {
            return UNKNOWN;
        }
        int leader = leaderBy(BY_CELLS);
        if (leader == NONE || leader == side) {
            return STATE;
        }
        return poll.fewestToTurn(leader, side, drawing);
    }

    public int count(int what) {
        switch (what) {
            case 0:
                return ground.size();
            case 1:
                return Long.bitCount(map.landCells());
            case 2:
                return Long.bitCount(drawing.landCells());
            case 3:
                return census.allHeads();
            case 4:
                return map.landsWithCells();
            default:
                return BAD;
        }
    }

    // ---- what the calls share

    private static boolean isEdge(int n) {
        return n >= LEAST_EDGE && n <= MOST_EDGE;
    }

    private static boolean isLand(int land) {
        return land >= 0 && land < LANDS;
    }

    private static boolean isOwner(int land) {
        return isLand(land) || land == SEA;
    }

    private static boolean isSide(int side) {
        return side >= 0 && side < SIDES;
    }

    private static boolean isPeople(int n) {
        return n >= 0 && n <= MOST_PEOPLE;
    }

    private static int lowestCell(long cells) {
        return cells == 0 ? NONE : Long.bitCount((cells & -cells) - 1);
    }

    /** The one that has more than each other, or NONE. */
    private static int leaderOf(int first, int second, int third) {
        if (first > second && first > third) {
            return 0;
        }
        if (second > first && second > third) {
            return 1;
        }
        return third > first && third > second ? 2 : NONE;
    }

    private Sheet sheetOf(boolean drawn) {
        return drawn ? drawing : map;
    }

    private void shareOut() {
        census.shareOut(Long.bitCount(map.landCells()));
    }

    private long unlikeCells() {
        long like = 0;
        for (int owner = 0; owner <= SEA; owner++) {
            like |= map.cellsOf(owner) & drawing.cellsOf(owner);
        }
        return ground.all & ~like;
    }

    private boolean isChange(int cell, int to) {
        int from = drawing.ownerOf(cell);
        if (from == to) {
            return false;
        }
        if (to == SEA) {
            return true;
        }
        long there = drawing.cellsOf(to);
        if (from == SEA && there == 0) {
            return true;
        }
        return (ground.rimOf(1L << cell) & there) != 0;
    }

    /** FAULTS as the drawing stands; the dues have to be shared out already. */
    private int faultsAgainst(long mapPairs) {
        int sum = 0;
        for (int land = 0; land < LANDS; land++) {
            sum += Math.abs(drawing.sizeOf(land) - census.due[land]);
            sum += 3 * Math.max(0, ground.partsOf(drawing.cellsOf(land)) - 1);
        }
        long drawnPairs = drawing.neighbourPairs();
        return sum + 2 * Long.bitCount(mapPairs & ~drawnPairs) + Long.bitCount(drawnPairs & ~mapPairs);
    }

    private int faultsBehind(int cell, int to, long mapPairs) {
        int from = drawing.ownerOf(cell);
        drawing.put(1L << cell, to);
        int behind = faultsAgainst(mapPairs);
        drawing.put(1L << cell, from);
        return behind;
    }

    /**
     * A cell of both stays where it is: by way of it no sum is shorter than past it. So at most
     * half the field is left on either side, which is what Matching has room for.
     */
    private int leastSteps(long there, long here) {
        long leaving = there & ~here;
        long arriving = here & ~there;
        int size = Long.bitCount(leaving);
        matching.begin(size, size);
        for (int row = 0; row < size; row++) {
            int from = lowestCell(leaving);
            leaving &= leaving - 1;
            long rest = arriving;
            for (int column = 0; column < size; column++) {
                matching.setCost(row, column, ground.steps(from, lowestCell(rest)));
                rest &= rest - 1;
            }
        }
        matching.solve();
        return (int) matching.sum();
    }

    private int tally(int side, int by) {
        return by == BY_HEADS ? poll.votesForAll(side) : poll.cellsWon(side, sheetOf(by == BY_CELLS));
    }

    private int leaderBy(int by) {
        return leaderOf(tally(0, by), tally(1, by), tally(2, by));
    }

    /** THE FIELD: how wide and high it is, and what lies beside what. */
    private static final class Ground {
        int width;
        int height;
        long all;
        long westEdge;
        long eastEdge;

        Ground(int w, int h) {
            lay(w, h);
        }

        void lay(int w, int h) {
            width = w;
            height = h;
            all = (1L << (w * h)) - 1;
            westEdge = 0;
            for (int row = 0; row < h; row++) {
                westEdge |= 1L << (row * w);
            }
            eastEdge = westEdge << (w - 1);
        }

        int size() {
            return width * height;
        }

        boolean knows(int cell) {
            return cell >= 0 && cell < size();
        }

        int columnOf(int cell) {
            return width < 1 ? 0 : cell % width;
        }

        int rowOf(int cell) {
            return width < 1 ? 0 : cell / width;
        }

        int steps(int a, int b) {
            return Math.abs(columnOf(a) - columnOf(b)) + Math.abs(rowOf(a) - rowOf(b));
        }

        long boxed(int corner, int other) {
            long boxed = 0;
            for (int row = rowOf(corner); row <= rowOf(other); row++) {
                for (int column = columnOf(corner); column <= columnOf(other); column++) {
                    boxed |= 1L << (row * width + column);
                }
            }
            return boxed;
        }

        /** All that lie beside one of these; of these themselves those that have one of them beside. */
        long rimOf(long cells) {
            long rim = (cells & ~eastEdge) << 1 | (cells & ~westEdge) >>> 1 | cells << width | cells >>> width;
            return rim & all;
        }

        int partsOf(long cells) {
            long rest = cells;
            int parts = 0;
            while (parts < MOST_CELLS && rest != 0) {
                rest &= ~pieceFrom(rest & -rest, rest);
                parts++;
            }
            return parts;
        }

        private long pieceFrom(long start, long cells) {
            long piece = start;
            for (int step = 0; step < MOST_CELLS; step++) {
                long wider = piece | rimOf(piece) & cells;
                if (wider == piece) {
                    return piece;
                }
                piece = wider;
            }
            return piece;
        }
    }

    /** A map: which cells each land has; what none has is the sea's. */
    private static final class Sheet {
        private final Ground ground;
        private final long[] owned = new long[LANDS];

        Sheet(Ground ground) {
            this.ground = ground;
        }

        void clear() {
            Arrays.fill(owned, 0L);
        }

        void copy(Sheet other) {
            System.arraycopy(other.owned, 0, owned, 0, LANDS);
        }

        void put(long cells, int owner) {
            for (int land = 0; land < LANDS; land++) {
                owned[land] = land == owner ? owned[land] | cells : owned[land] & ~cells;
            }
        }

        int ownerOf(int cell) {
            for (int land = 0; land < LANDS; land++) {
                if ((owned[land] >>> cell & 1L) != 0) {
                    return land;
                }
            }
            return SEA;
        }

        long cellsOf(int owner) {
            return isLand(owner) ? owned[owner] : ground.all & ~landCells();
        }

        int sizeOf(int land) {
            return Long.bitCount(cellsOf(land));
        }

        long landCells() {
            long cells = 0;
            for (int land = 0; land < LANDS; land++) {
                cells |= owned[land];
            }
            return cells;
        }

        int landsWithCells() {
            int n = 0;
            for (int land = 0; land < LANDS; land++) {
                n += owned[land] == 0 ? 0 : 1;
            }
            return n;
        }

        boolean areNeighbours(int a, int b) {
            return (ground.rimOf(cellsOf(a)) & cellsOf(b)) != 0;
        }

        /** Bit a * LANDS + b for each pair a < b of neighbours. */
        long neighbourPairs() {
            long pairs = 0;
            for (int a = 0; a < LANDS; a++) {
                long rim = ground.rimOf(owned[a]);
                for (int b = a + 1; b < LANDS; b++) {
                    if ((rim & owned[b]) != 0) {
                        pairs |= 1L << (a * LANDS + b);
                    }
                }
            }
            return pairs;
        }
    }

    /** HEADS, and what is DUE by them. */
    private static final class Census {
        final int[] heads = new int[LANDS];
        final int[] due = new int[LANDS];
        private final int[] rests = new int[LANDS];
        int way;

        int allHeads() {
            int sum = 0;
            for (int land = 0; land < LANDS; land++) {
                sum += heads[land];
            }
            return sum;
        }

        void shareOut(int cells) {
            Arrays.fill(due, 0);
            if (way == 0) {
                shareByRests(cells);
            } else {
                shareByDivisors(cells);
            }
        }

        private void shareByRests(int cells) {
            int all = allHeads();
            if (all < 1) {
                return;
            }
            int left = cells;
            for (int land = 0; land < LANDS; land++) {
                due[land] = heads[land] * cells / all;
                rests[land] = heads[land] * cells % all;
                left -= due[land];
            }
            for (int given = 0; given < left; given++) {
                int next = 0;
                for (int land = 1; land < LANDS; land++) {
                    if (rests[land] > rests[next]) {
                        next = land;
                    }
                }
                due[next]++;
                rests[next] = -1;
            }
        }

        private void shareByDivisors(int cells) {
            if (allHeads() < 1) {
                return;
            }
            for (int given = 0; given < cells; given++) {
                int next = 0;
                for (int land = 1; land < LANDS; land++) {
                    if (heads[land] * divisorOf(next) > heads[next] * divisorOf(land)) {
                        next = land;
                    }
                }
                due[next]++;
            }
        }

        /** Way 1 divides by 1, 2, 3 .., way 2 by 1, 3, 5 .. */
        private int divisorOf(int land) {
            return way * due[land] + 1;
        }
    }

    /** Cells HANDED from land to land in the drawing, one by one and along THE CHAIN. */
    private static final class Handing {
        private static final int FAR = LANDS + 1;

        private final Ground ground;
        private final Sheet drawing;
        private final Census census;
        private final boolean[] hands = new boolean[LANDS * LANDS];
        private final int[] lengths = new int[LANDS];
        final int[] links = new int[LANDS];

        Handing(Ground ground, Sheet drawing, Census census) {
            this.ground = ground;
            this.drawing = drawing;
            this.census = census;
        }

        boolean allows(int cell, int to) {
            int from = drawing.ownerOf(cell);
            if (from == SEA || from == to) {
                return false;
            }
            long bit = 1L << cell;
            return (ground.rimOf(bit) & drawing.cellsOf(to)) != 0 && (looseCells(from, bit) & bit) != 0;
        }

        /** Of these cells those without which the land still has one and has no more parts. */
        private long looseCells(int land, long asked) {
            long cells = drawing.cellsOf(land);
            if (Long.bitCount(cells) < 2) {
                return 0;
            }
            int parts = ground.partsOf(cells);
            long loose = 0;
            for (int cell = 0; cell < MOST_CELLS; cell++) {
                long bit = 1L << cell;
                if ((cells & asked & bit) != 0 && ground.partsOf(cells & ~bit) <= parts) {
                    loose |= bit;
                }
            }
            return loose;
        }

        private long cellsToHand(int from, int to) {
            return looseCells(from, ground.rimOf(drawing.cellsOf(to)));
        }

        /** Fills links with THE CHAIN and answers how many it has; the dues have to be shared out already. */
        int findChain() {
            seeWhoHands();
            measureLengths();
            int at = NONE;
            for (int land = 0; land < LANDS; land++) {
                boolean hasMore = drawing.sizeOf(land) > census.due[land];
                if (hasMore && lengths[land] < (at == NONE ? FAR : lengths[at])) {
                    at = land;
                }
            }
            if (at == NONE) {
                return 0;
            }
            int length = lengths[at];
            for (int i = 0; i < length && i < LANDS && at != NONE; i++) {
                links[i] = at;
                at = nextOf(at);
            }
            return length;
        }

        private void seeWhoHands() {
            for (int from = 0; from < LANDS; from++) {
                long loose = looseCells(from, ground.all);
                for (int to = 0; to < LANDS; to++) {
                    hands[from * LANDS + to] = from != to && (loose & ground.rimOf(drawing.cellsOf(to))) != 0;
                }
            }
        }

        /** How many lands the shortest way from each to one that has less takes, both ends counted. */
        private void measureLengths() {
            for (int land = 0; land < LANDS; land++) {
                lengths[land] = drawing.sizeOf(land) < census.due[land] ? 1 : FAR;
            }
            for (int round = 1; round < LANDS; round++) {
                for (int from = 0; from < LANDS; from++) {
                    for (int to = 0; to < LANDS; to++) {
                        if (hands[from * LANDS + to]) {
                            lengths[from] = Math.min(lengths[from], lengths[to] + 1);
                        }
                    }
                }
            }
        }

        private int nextOf(int land) {
            for (int to = 0; to < LANDS; to++) {
                if (hands[land * LANDS + to] && lengths[to] == lengths[land] - 1) {
                    return to;
                }
            }
            return NONE;
        }

        int passAlong(int length) {
            int handed = 0;
            for (int i = Math.min(length, LANDS) - 2; i >= 0; i--) {
                int to = links[i + 1];
                int cell = lowestCell(cellsToHand(links[i], to));
                if (cell == NONE) {
                    return handed;
                }
                drawing.put(1L << cell, to);
                handed++;
            }
            return handed;
        }
    }

    /**
     * Gives each row a column of its own so that the costs add up to the least sum: rows are
     * placed one after the other, each along a cheapest path of rows that make room, with prices
     * on rows and columns that keep all reduced costs from being negative.
     */
    private static final class Matching {
        private static final int MOST_COSTS = 324;
        private static final long FAR = 1L << 60;

        private final long[] costs = new long[MOST_COSTS];
        private final long[] rowPrices = new long[MOST_CELLS + 1];
        private final long[] columnPrices = new long[MOST_CELLS + 1];
        private final long[] slacks = new long[MOST_CELLS + 1];
        private final int[] rowAt = new int[MOST_CELLS + 1];
        private final int[] cameFrom = new int[MOST_CELLS + 1];
        private long reached;
        private int rows;
        private int columns;

        /** Rows and columns are told from 0; inside they begin at 1, and 0 stands for none. */
        void begin(int rowCount, int columnCount) {
            boolean fits = rowCount >= 0 && rowCount <= columnCount && columnCount <= MOST_CELLS
                    && rowCount * columnCount <= MOST_COSTS;
            rows = fits ? rowCount : 0;
            columns = fits ? columnCount : 0;
        }

        void setCost(int row, int column, long cost) {
            if (row >= 0 && row < rows && column >= 0 && column < columns) {
                costs[row * columns + column] = cost;
            }
        }

        void solve() {
            Arrays.fill(rowPrices, 0L);
            Arrays.fill(columnPrices, 0L);
            Arrays.fill(rowAt, 0);
            for (int row = 1; row <= rows; row++) {
                makeRoom(placeFor(row));
            }
        }

        int rowIn(int column) {
            return column >= 0 && column < columns ? rowAt[column + 1] - 1 : NONE;
        }

        long sum() {
            long sum = 0;
            for (int column = 1; column <= columns; column++) {
                sum += rowAt[column] == 0 ? 0 : costs[(rowAt[column] - 1) * columns + column - 1];
            }
            return sum;
        }

        /** The free column at the end of the cheapest path from this row. */
        private int placeFor(int row) {
            rowAt[0] = row;
            reached = 0;
            Arrays.fill(slacks, FAR);
            int column = 0;
            for (int step = 0; step <= columns && rowAt[column] != 0; step++) {
                reached |= 1L << column;
                tightenFrom(column);
                int next = nearestColumn();
                movePrices(slacks[next]);
                column = next;
            }
            return column;
        }

        private void tightenFrom(int through) {
            int row = rowAt[through];
            for (int column = 1; column <= columns; column++) {
                if (!isReached(column)) {
                    long cost = costs[(row - 1) * columns + column - 1] - rowPrices[row] - columnPrices[column];
                    if (cost < slacks[column]) {
                        slacks[column] = cost;
                        cameFrom[column] = through;
                    }
                }
            }
        }

        /** Slack 0 is never tightened, so it is greater than that of any column to be reached. */
        private int nearestColumn() {
            int nearest = 0;
            for (int column = 1; column <= columns; column++) {
                if (!isReached(column) && slacks[column] < slacks[nearest]) {
                    nearest = column;
                }
            }
            return nearest;
        }

        private void movePrices(long by) {
            for (int column = 0; column <= columns; column++) {
                if (isReached(column)) {
                    rowPrices[rowAt[column]] += by;
                    columnPrices[column] -= by;
                } else {
                    slacks[column] -= by;
                }
            }
        }

        private boolean isReached(int column) {
            return (reached >>> column & 1L) != 0;
        }

        private void makeRoom(int end) {
            int column = end;
            for (int step = 0; step <= columns && column != 0; step++) {
                int before = cameFrom[column];
                rowAt[column] = rowAt[before];
                column = before;
            }
        }
    }

    /** THE BEST TILES of a map. */
    private static final class Tiles {
        /** More than all tiles, read as a number of six digits to the base of 36, can make. */
        private static final long ONE_OFF = 36L * 36 * 36 * 36 * 36 * 36;

        private final Ground ground;
        private final Matching matching;
        private final int[] landOfRow = new int[LANDS];
        final Sheet sheet;

        Tiles(Ground ground, Matching matching) {
            this.ground = ground;
            this.matching = matching;
            this.sheet = new Sheet(ground);
        }

        /** Lays the best tiles on the sheet, and answers their sum of OFF. */
        int findBest(Sheet map) {
            matching.begin(map.landsWithCells(), ground.size());
            int row = 0;
            for (int land = 0; land < LANDS; land++) {
                if (map.sizeOf(land) > 0 && row < LANDS) {
                    landOfRow[row] = land;
                    setCosts(row, map.cellsOf(land), digitOf(land));
                    row++;
                }
            }
            matching.solve();
            sheet.clear();
            for (int cell = 0; cell < ground.size(); cell++) {
                int placed = matching.rowIn(cell);
                if (placed >= 0 && placed < row) {
                    sheet.put(1L << cell, landOfRow[placed]);
                }
            }
            return (int) (matching.sum() / ONE_OFF);
        }

        /** The least land's cell weighs most, so of like sums the first by cells is the cheapest. */
        private static long digitOf(int land) {
            long digit = 1;
            for (int later = land + 1; later < LANDS; later++) {
                digit *= MOST_CELLS;
            }
            return digit;
        }

        private void setCosts(int row, long cells, long digit) {
            int n = Long.bitCount(cells);
            int allX = 0;
            int allY = 0;
            for (int cell = 0; cell < ground.size(); cell++) {
                if ((cells >>> cell & 1L) != 0) {
                    allX += ground.columnOf(cell);
                    allY += ground.rowOf(cell);
                }
            }
            for (int cell = 0; cell < ground.size(); cell++) {
                long x = n * ground.columnOf(cell) - allX;
                long y = n * ground.rowOf(cell) - allY;
                matching.setCost(row, cell, (x * x + y * y) * ONE_OFF + cell * digit);
            }
        }
    }

    /** VOTES, and what becomes of lands by them. */
    private static final class Poll {
        private static final int ENDS = 4, NOBODY = 3;
        private static final int FAR = 1000000;

        private final int[] votes = new int[LANDS * SIDES];
        private final int[] prices = new int[LANDS * ENDS];
        private final int[] sizes = new int[LANDS];

        int votesOf(int land, int side) {
            return isLand(land) && isSide(side) ? votes[land * SIDES + side] : 0;
        }

        void setVotes(int land, int side, int n) {
            if (isLand(land) && isSide(side)) {
                votes[land * SIDES + side] = n;
            }
        }

        int winnerOf(int land) {
            return leaderOf(votesOf(land, 0), votesOf(land, 1), votesOf(land, 2));
        }

        int votesForAll(int side) {
            int sum = 0;
            for (int land = 0; land < LANDS; land++) {
                sum += votesOf(land, side);
            }
            return sum;
        }

        int cellsWon(int side, Sheet sheet) {
            int sum = 0;
            for (int land = 0; land < LANDS; land++) {
                sum += winnerOf(land) == side ? sheet.sizeOf(land) : 0;
            }
            return sum;
        }

        /** NONE, if the one side can not be put ahead by votes of the other. */
        int fewestToTurn(int from, int to, Sheet drawing) {
            Arrays.fill(prices, FAR);
            for (int land = 0; land < LANDS; land++) {
                sizes[land] = drawing.sizeOf(land);
                setPrices(land, from, to);
            }
            int fewest = cheapest(prices, sizes, 0, 0, 0);
            return fewest < FAR ? fewest : NONE;
        }

        /**
         * How few votes bring a land to each end: 0 the gaining side wins it, 1 the losing one,
         * 2 the third, 3 nobody. That the third wins or nobody does can be the cheaper help, so
         * each end has its price; once the gaining side wins, more votes change nothing.
         */
        private void setPrices(int land, int from, int to) {
            int gaining = votesOf(land, to);
            int losing = votesOf(land, from);
            int third = votesOf(land, SIDES - from - to);
            for (int gone = 0; gone <= losing && gone <= MOST_PEOPLE; gone++) {
                int winner = leaderOf(gaining + gone, losing - gone, third);
                int at = land * ENDS + (winner == NONE ? NOBODY : winner);
                prices[at] = Math.min(prices[at], gone);
                if (winner == 0) {
                    return;
                }
            }
        }

        /** From this land on, with the gaining side's lead in cells over the two others so far. */
        private static int cheapest(int[] prices, int[] sizes, int land, int overLosing, int overThird) {
            if (land < 0 || land >= LANDS) {
                return overLosing > 0 && overThird > 0 ? 0 : FAR;
            }
            int size = sizes[land];
            int best = FAR;
            for (int end = 0; end < ENDS; end++) {
                int price = prices[land * ENDS + end];
                if (price < best) {
                    int losing = overLosing + (end == 0 ? size : end == 1 ? -size : 0);
                    int third = overThird + (end == 0 ? size : end == 2 ? -size : 0);
                    best = Math.min(best, price + cheapest(prices, sizes, land + 1, losing, third));
                }
            }
            return best;
        }
    }
}
