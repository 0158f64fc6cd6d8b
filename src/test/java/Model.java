import java.util.ArrayList;
import java.util.Arrays;
import java.util.HashMap;
import java.util.List;
import java.util.Map;

/**
 * The document once more, written as plainly and as unlike the class as can be: rows of owners,
 * all sequences, all subsets. Only for tests: it is slow, and takes no wrong arguments.
 */
final class Model {
    static final int NONE = -9;

    int w = 4;
    int h = 4;
    int[][] owner = new int[2][36];
    int[] heads = new int[6];
    int way = 0;
    int[][] votes = new int[6][3];

    Model() {
        field(4, 4);
    }

    int field(int wide, int high) {
        w = wide;
        h = high;
        for (int[] row : owner) {
            Arrays.fill(row, 6);
        }
        return w * h;
    }

    int give(boolean drawn, int cell, int land) {
        int was = row(drawn)[cell];
        row(drawn)[cell] = land;
        return was;
    }

    int box(boolean drawn, int cell, int other, int land) {
        int x0 = cell % w;
        int y0 = cell / w;
        int x1 = other % w;
        int y1 = other / w;
        if (x1 < x0 || y1 < y0) {
            return -2;
        }
        int fresh = 0;
        for (int c = 0; c < w * h; c++) {
            if (c % w >= x0 && c % w <= x1 && c / w >= y0 && c / w <= y1 && give(drawn, c, land) != land) {
                fresh++;
            }
        }
        return fresh;
    }

    int at(boolean drawn, int cell) {
        return row(drawn)[cell];
    }

    int trace() {
        int fresh = 0;
        for (int c = 0; c < w * h; c++) {
            if (give(true, c, at(false, c)) != at(false, c)) {
                fresh++;
            }
        }
        return fresh;
    }

    int cells(boolean drawn, int land) {
        return cellsOf(drawn, land).size();
    }

    int[] dues() {
        int total = count(1);
        int all = count(3);
        int[] due = new int[6];
        if (all == 0) {
            return due;
        }
        if (way > 0) {
            for (int i = 0; i < total; i++) {
                int best = -1;
                for (int l = 5; l >= 0; l--) {
                    if (best < 0 || (double) heads[l] / (way * due[l] + 1) >= quotient(best, due) - 1e-12) {
                        best = l;
                    }
                }
                due[best]++;
            }
            return due;
        }
        List<int[]> rests = new ArrayList<>();
        int left = total;
        for (int l = 0; l < 6; l++) {
            due[l] = heads[l] * total / all;
            left -= due[l];
            rests.add(new int[] {heads[l] * total - due[l] * all, l});
        }
        rests.sort((a, b) -> a[0] != b[0] ? b[0] - a[0] : a[1] - b[1]);
        for (int i = 0; i < left; i++) {
            due[rests.get(i)[1]]++;
        }
        return due;
    }

    private double quotient(int land, int[] due) {
        return (double) heads[land] / (way * due[land] + 1);
    }

    int due(int land) {
        return dues()[land];
    }

    int parts(int land) {
        boolean[] seen = new boolean[36];
        int parts = 0;
        for (int c : cellsOf(true, land)) {
            if (!seen[c]) {
                parts++;
                visit(c, land, seen);
            }
        }
        return parts;
    }

    private void visit(int cell, int land, boolean[] seen) {
        seen[cell] = true;
        for (int c : around(cell)) {
            if (!seen[c] && at(true, c) == land) {
                visit(c, land, seen);
            }
        }
    }

    int beside(boolean drawn, int a, int b) {
        if (a == b) {
            return -3;
        }
        for (int c : cellsOf(drawn, a)) {
            for (int d : cellsOf(drawn, b)) {
                if (steps(c, d) == 1) {
                    return 1;
                }
            }
        }
        return 0;
    }

    int faults() {
        int[] due = dues();
        int sum = 0;
        for (int a = 0; a < 6; a++) {
            sum += Math.abs(cells(true, a) - due[a]);
            int parts = parts(a);
            sum += parts > 1 ? 3 * (parts - 1) : 0;
            for (int b = 0; b < a; b++) {
                int m = beside(false, a, b);
                int d = beside(true, a, b);
                sum += m > d ? 2 : d > m ? 1 : 0;
            }
        }
        return sum;
    }

    boolean isChange(int cell, int to) {
        int from = at(true, cell);
        boolean touches = false;
        for (int c : around(cell)) {
            touches |= at(true, c) == to;
        }
        if (from == 6) {
            return to != 6 && (touches || cells(true, to) == 0);
        }
        return to != from && (to == 6 || touches);
    }

    int would(int cell, int land) {
        if (!isChange(cell, land)) {
            return -3;
        }
        int was = give(true, cell, land);
        int answer = faults();
        give(true, cell, was);
        return answer;
    }

    int mend() {
        int best = faults();
        int answer = NONE;
        for (int code = 0; code < w * h * 7; code++) {
            int f = would(code / 7, code % 7);
            if (f >= 0 && f < best) {
                best = f;
                answer = code;
            }
        }
        if (answer == NONE) {
            return NONE;
        }
        give(true, answer / 7, answer % 7);
        return answer / 7 * 10 + answer % 7;
    }

    int mayHand(int cell, int land) {
        int from = at(true, cell);
        if (from == 6 || from == land) {
            return 0;
        }
        boolean touches = false;
        for (int c : around(cell)) {
            touches |= at(true, c) == land;
        }
        int before = parts(from);
        give(true, cell, 6);
        boolean whole = cells(true, from) > 0 && parts(from) <= before;
        give(true, cell, from);
        return touches && whole ? 1 : 0;
    }

    int hand(int cell, int land) {
        return mayHand(cell, land) == 1 ? give(true, cell, land) : -3;
    }

    /** All sequences of lands, the short ones first, each length in the order of lands. */
    List<Integer> theChain() {
        int[] due = dues();
        boolean[][] hands = new boolean[6][6];
        for (int c = 0; c < w * h; c++) {
            for (int l = 0; l < 6; l++) {
                if (mayHand(c, l) == 1) {
                    hands[at(true, c)][l] = true;
                }
            }
        }
        for (int length = 2; length <= 6; length++) {
            List<Integer> found = extend(new ArrayList<>(), length, hands, due);
            if (found != null) {
                return found;
            }
        }
        return new ArrayList<>();
    }

    private List<Integer> extend(List<Integer> begun, int length, boolean[][] hands, int[] due) {
        int size = begun.size();
        int last = size == 0 ? -1 : begun.get(size - 1);
        if (size == length) {
            return cells(true, last) < due[last] ? begun : null;
        }
        for (int l = 0; l < 6; l++) {
            if (size == 0 ? cells(true, l) > due[l] : hands[last][l]) {
                List<Integer> more = new ArrayList<>(begun);
                more.add(l);
                List<Integer> found = extend(more, length, hands, due);
                if (found != null) {
                    return found;
                }
            }
        }
        return null;
    }

    int chain() {
        int length = theChain().size();
        return length == 0 ? NONE : length;
    }

    int link(int i) {
        List<Integer> chain = theChain();
        return i >= 0 && i < chain.size() ? chain.get(i) : NONE;
    }

    int pass() {
        List<Integer> chain = theChain();
        if (chain.isEmpty()) {
            return -3;
        }
        for (int i = chain.size() - 2; i >= 0; i--) {
            boolean handed = false;
            for (int c = 0; c < w * h && !handed; c++) {
                handed = at(true, c) == chain.get(i) && hand(c, chain.get(i + 1)) >= 0;
            }
            if (!handed) {
                return chain.size() - 2 - i;
            }
        }
        return chain.size() - 1;
    }

    int settle() {
        int n = 0;
        while (n < 40 && pass() != -3) {
            n++;
        }
        return n;
    }

    int changed() {
        int n = 0;
        for (int c = 0; c < w * h; c++) {
            n += at(false, c) != 6 && at(true, c) != at(false, c) ? 1 : 0;
        }
        return n;
    }

    /** A flow of the least cost: as long as there is one, a cheaper round of exchanges is made. */
    int carried(int land) {
        List<Integer> there = cellsOf(false, land);
        List<Integer> here = cellsOf(true, land);
        int n = there.size();
        if (n != here.size()) {
            return -3;
        }
        int[] to = new int[n];
        for (int i = 0; i < n; i++) {
            to[i] = here.get(i);
        }
        while (improve(there, to)) {
            n = there.size();
        }
        int sum = 0;
        for (int i = 0; i < n; i++) {
            sum += steps(there.get(i), to[i]);
        }
        return sum;
    }

    /** A round i0 -> i1 -> .. -> i0, each taking the next one's cell, whose change is negative. */
    private boolean improve(List<Integer> there, int[] to) {
        int n = to.length;
        int[] dist = new int[n];
        int[] from = new int[n];
        int last = -1;
        for (int round = 0; round < n; round++) {
            last = -1;
            for (int i = 0; i < n; i++) {
                for (int j = 0; j < n; j++) {
                    int change = steps(there.get(i), to[j]) - steps(there.get(i), to[i]);
                    if (dist[i] + change < dist[j]) {
                        dist[j] = dist[i] + change;
                        from[j] = i;
                        last = j;
                    }
                }
            }
        }
        if (last < 0) {
            return false;
        }
        for (int i = 0; i < n; i++) {
            last = from[last];
        }
        int first = last;
        int firstCell = to[first];
        List<Integer> ring = new ArrayList<>();
        int j = first;
        do {
            ring.add(j);
            j = from[j];
        } while (j != first);
        int[] old = to.clone();
        for (int k = 0; k < ring.size(); k++) {
            int taker = ring.get((k + 1) % ring.size());
            to[taker] = k == 0 ? firstCell : old[ring.get(k)];
        }
        return true;
    }

    /** Tiles in the order of lands: the least cell with which the best sum can still be had. */
    int[] bestTiles() {
        int[] tiles = new int[6];
        Arrays.fill(tiles, NONE);
        long best = leastOff(tiles);
        for (int l = 0; l < 6; l++) {
            if (cells(false, l) == 0) {
                continue;
            }
            for (int c = 0; c < w * h; c++) {
                tiles[l] = c;
                if (leastOff(tiles) == best) {
                    break;
                }
            }
        }
        return tiles;
    }

    /** The least sum with some tiles told: cell by cell, for each set of lands that have theirs. */
    private long leastOff(int[] told) {
        long far = 1L << 40;
        long[] least = new long[64];
        Arrays.fill(least, far);
        least[0] = 0;
        int wanted = 0;
        for (int l = 0; l < 6; l++) {
            wanted |= cells(false, l) > 0 ? 1 << l : 0;
        }
        for (int c = 0; c < w * h; c++) {
            long[] next = least.clone();
            for (int l = 0; l < 6; l++) {
                if ((wanted >> l & 1) == 1 && (told[l] == NONE || told[l] == c)) {
                    long off = offOf(l, c);
                    for (int set = 0; set < 64; set++) {
                        if ((set >> l & 1) == 0) {
                            next[set | 1 << l] = Math.min(next[set | 1 << l], least[set] + off);
                        }
                    }
                }
            }
            least = next;
        }
        return least[wanted];
    }

    private long offOf(int land, int cell) {
        List<Integer> mine = cellsOf(false, land);
        long x = 0;
        long y = 0;
        for (int c : mine) {
            x += cell % w - c % w;
            y += cell / w - c / w;
        }
        return x * x + y * y;
    }

    int off() {
        int[] none = new int[6];
        Arrays.fill(none, NONE);
        return (int) leastOff(none);
    }

    int tile(int land) {
        return bestTiles()[land];
    }

    int kept() {
        int[] tiles = bestTiles();
        int n = 0;
        for (int a = 0; a < 6; a++) {
            for (int b = 0; b < a; b++) {
                n += beside(false, a, b) == 1 && steps(tiles[a], tiles[b]) == 1 ? 1 : 0;
            }
        }
        return n;
    }

    int won(int land) {
        return most(votes[land]);
    }

    private static int most(int[] of) {
        for (int s = 0; s < 3; s++) {
            if (of[s] > of[(s + 1) % 3] && of[s] > of[(s + 2) % 3]) {
                return s;
            }
        }
        return NONE;
    }

    int has(int side, int by) {
        int sum = 0;
        for (int l = 0; l < 6; l++) {
            sum += by == 2 ? votes[l][side] : won(l) == side ? cells(by == 1, l) : 0;
        }
        return sum;
    }

    int ahead(int by) {
        return most(new int[] {has(0, by), has(1, by), has(2, by)});
    }

    /** Land by land, the fewest votes for each sharing of cells among sides, whatever number goes. */
    int turn(int side) {
        int leader = ahead(1);
        if (leader == NONE || leader == side) {
            return -3;
        }
        Map<Integer, Integer> fewest = new HashMap<>();
        fewest.put(0, 0);
        for (int l = 0; l < 6; l++) {
            Map<Integer, Integer> next = new HashMap<>();
            for (int n = 0; n <= votes[l][leader]; n++) {
                int[] then = votes[l].clone();
                then[leader] -= n;
                then[side] += n;
                int winner = most(then);
                int gain = winner == NONE ? 0 : cells(true, l) * (winner == 0 ? 1 : winner == 1 ? 100 : 10000);
                for (Map.Entry<Integer, Integer> e : fewest.entrySet()) {
                    next.merge(e.getKey() + gain, e.getValue() + n, Math::min);
                }
            }
            fewest = next;
        }
        int best = NONE;
        for (Map.Entry<Integer, Integer> e : fewest.entrySet()) {
            int k = e.getKey();
            if (most(new int[] {k % 100, k / 100 % 100, k / 10000}) == side && (best == NONE || e.getValue() < best)) {
                best = e.getValue();
            }
        }
        return best;
    }

    int count(int what) {
        int sum = 0;
        for (int l = 0; l < 6; l++) {
            sum += what == 3 ? heads[l] : what == 4 ? Math.min(1, cells(false, l)) : what == 0 ? 0 : cells(what == 2, l);
        }
        return what == 0 ? w * h : sum;
    }

    private int[] row(boolean drawn) {
        return owner[drawn ? 1 : 0];
    }

    private List<Integer> cellsOf(boolean drawn, int land) {
        List<Integer> cells = new ArrayList<>();
        for (int c = 0; c < w * h; c++) {
            if (row(drawn)[c] == land) {
                cells.add(c);
            }
        }
        return cells;
    }

    private List<Integer> around(int cell) {
        List<Integer> cells = new ArrayList<>();
        for (int c = 0; c < w * h; c++) {
            if (steps(c, cell) == 1) {
                cells.add(c);
            }
        }
        return cells;
    }

    private int steps(int a, int b) {
        return Math.abs(a % w - b % w) + Math.abs(a / w - b / w);
    }
}
