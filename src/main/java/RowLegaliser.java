public final class RowLegaliser {
    public static final int BAD_WIDTH = -1;
    public static final int BAD_WISH = -2;
    public static final int BAD_WEIGHT = -3;
    public static final int BAD_CELL = -4;
    public static final int FULL = -5;
    public static final int NONE = -6;

    private static final int LEAST_LENGTH = 10;
    private static final int MOST_LENGTH = 60;
    private static final int MOST_CELLS = 10;
    private static final int MOST_WIDTH = 5;
    private static final int MOST_WISH = 60;
    private static final int MOST_WEIGHT = 5;
    private static final int EDGES = 61;
    private static final int TABLE_SIZE = 610;
    private static final int NO_CELL = -1;

    // Far above the dearest placement, which is below 10 * 5 * 60.
    private static final int UNREACHABLE = 1000000;

    private final int length;
    private int count = 0;
    private final int[] widths = new int[MOST_CELLS];
    private final int[] wishes = new int[MOST_CELLS];
    private final int[] weights = new int[MOST_CELLS];

    // At cell * EDGES + x: the least cost of the cells up to this one with this one's left
    // edge at x or further left. It is scratch, filled anew by each call that reads it.
    private final int[] table = new int[TABLE_SIZE];

    // The longest chain of contented cells that ends with each cell; scratch likewise.
    private final int[] chains = new int[MOST_CELLS];

    public RowLegaliser(int length) {
        this.length = length < LEAST_LENGTH ? LEAST_LENGTH : length > MOST_LENGTH ? MOST_LENGTH : length;
    }

    public int append(int width, int wish, int weight) {
        if (width < 1 || width > MOST_WIDTH) {
            return BAD_WIDTH;
        }
        if (isBadWish(wish)) {
            return BAD_WISH;
        }
        if (isBadWeight(weight)) {
            return BAD_WEIGHT;
        }
        if (count >= MOST_CELLS) {
            return FULL;
        }
        widths[count] = width;
        wishes[count] = wish;
        weights[count] = weight;
        count++;
        return count - 1;
    }

    public int move(int cell, int wish) {
        if (isBadCell(cell)) {
            return BAD_CELL;
        }
        if (isBadWish(wish)) {
            return BAD_WISH;
        }
        int old = wishes[cell];
        wishes[cell] = wish;
        return old;
    }

    public int reweigh(int cell, int weight) {
        if (isBadCell(cell)) {
            return BAD_CELL;
        }
        if (isBadWeight(weight)) {
            return BAD_WEIGHT;
        }
        int old = weights[cell];
        weights[cell] = weight;
        return old;
    }

    public int exchange(int cell) {
        // Not "cell + 1 >= count": that sum wraps around for the greatest int.
        if (cell < 0 || cell >= count - 1) {
            return BAD_CELL;
        }
        swapWithNext(widths, cell);
        swapWithNext(wishes, cell);
        swapWithNext(weights, cell);
        return 0;
    }

    public int drop() {
        if (count == 0) {
            return NONE;
        }
        count--;
        return count;
    }

    public int cost() {
        return leastCost(count, NO_CELL, 0);
    }

    public int costOf(int n) {
        if (n < 0 || n > count) {
            return BAD_CELL;
        }
        return leastCost(n, NO_CELL, 0);
    }

    public int leftmost(int cell) {
        if (isBadCell(cell)) {
            return BAD_CELL;
        }
        if (leastCost(count, NO_CELL, 0) == NONE) {
            return NONE;
        }
        int edge = leftmostEdge(count - 1, EDGES - 1);
        for (int i = count - 2; i >= cell; i--) {
            edge = leftmostEdge(i, edge - widths[i]);
        }
        return edge;
    }

    public int costAt(int cell, int x) {
        if (isBadCell(cell)) {
            return BAD_CELL;
        }
        if (x < 0 || x > length - widths[cell]) {
            return NONE;
        }
        return leastCost(count, cell, x);
    }

    public int room() {
        int left = length;
        for (int i = 0; i < count; i++) {
            left -= widths[i];
        }
        return left;
    }

    public int content() {
        int most = 0;
        for (int i = 0; i < count; i++) {
            chains[i] = longestChainTo(i);
            if (chains[i] > most) {
                most = chains[i];
            }
        }
        return most;
    }

    private boolean isBadCell(int cell) {
        return cell < 0 || cell >= count;
    }

    private boolean isBadWish(int wish) {
        return wish < 0 || wish > MOST_WISH;
    }

    private boolean isBadWeight(int weight) {
        return weight < 1 || weight > MOST_WEIGHT;
    }

    private void swapWithNext(int[] values, int cell) {
        int kept = values[cell];
        values[cell] = values[cell + 1];
        values[cell + 1] = kept;
    }

    // The least cost of the first n cells, or NONE. One of them may be pinned to a left edge
    // inside the row.
    private int leastCost(int n, int pinnedCell, int pinnedEdge) {
        if (n == 0) {
            return 0;
        }
        for (int i = 0; i < n; i++) {
            if (i == pinnedCell) {
                fillCell(i, pinnedEdge, pinnedEdge);
            } else {
                fillCell(i, 0, length - widths[i]);
            }
        }
        int least = table[(n - 1) * EDGES + EDGES - 1];
        return least >= UNREACHABLE ? NONE : least;
    }

    private void fillCell(int cell, int firstEdge, int lastEdge) {
        int least = UNREACHABLE;
        for (int edge = 0; edge < EDGES; edge++) {
            if (edge >= firstEdge && edge <= lastEdge) {
                int here = costBefore(cell, edge) + ownCost(cell, edge);
                if (here < least) {
                    least = here;
                }
            }
            table[cell * EDGES + edge] = least;
        }
    }

    private int costBefore(int cell, int edge) {
        if (cell == 0) {
            return 0;
        }
        int latest = edge - widths[cell - 1];
        return latest < 0 ? UNREACHABLE : table[(cell - 1) * EDGES + latest];
    }

    private int ownCost(int cell, int edge) {
        int distance = edge - wishes[cell];
        return weights[cell] * (distance < 0 ? -distance : distance);
    }

    // The table never rises to the right, so the first edge of least cost is where it last fell.
    private int leftmostEdge(int cell, int latest) {
        int base = cell * EDGES;
        for (int edge = latest; edge > 0; edge--) {
            if (table[base + edge - 1] != table[base + edge]) {
                return edge;
            }
        }
        return 0;
    }

    // Widths are at least 1, so a chain that is right for each pair of neighbours is right as a whole.
    private int longestChainTo(int cell) {
        if (wishes[cell] + widths[cell] > length) {
            return 0;
        }
        int longest = 0;
        for (int i = 0; i < cell; i++) {
            if (wishes[i] + widths[i] <= wishes[cell] && chains[i] > longest) {
                longest = chains[i];
            }
        }
        return longest + 1;
    }
}
