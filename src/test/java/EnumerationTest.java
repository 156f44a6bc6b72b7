import java.util.Arrays;

/**
 * Many rows, each compared with what trying every placement and every choice of cells one by one tells.
 * The rows come from a fixed sequence of numbers, so that every run tests the same ones.
 */
public final class EnumerationTest {
    private static final int MOST_PLACEMENTS = 30000;

    private static long seed = 20261115L;
    private static int wrong = 0;
    private static int rows = 0;
    private static int infeasible = 0;

    private static int length;
    private static int count;
    private static final int[] width = new int[10];
    private static final int[] wish = new int[10];
    private static final int[] weight = new int[10];

    private static int least;
    private static final int[] best = new int[10];
    private static final int[][] leastAt = new int[10][61];

    public static void main(String[] args) {
        for (int i = 0; i < 6000; i++) {
            oneRow();
        }
        oneRowChanged();
        System.out.println(rows + " rows compared, " + infeasible + " of them without a placement");
        if (rows < 1000 || infeasible < 50 || infeasible > rows - 500) {
            wrong++;
            System.out.println("the rows are too few or too much alike");
        }
        System.out.println(wrong == 0 ? "all answers are as due" : wrong + " answers are not as due");
        if (wrong != 0) {
            System.exit(1);
        }
    }

    private static int number(int from, int to) {
        seed = seed * 6364136223846793005L + 1442695040888963407L;
        return from + (int) ((seed >>> 33) % (to - from + 1));
    }

    private static void due(String call, int got, int want) {
        if (got != want) {
            wrong++;
            StringBuilder cells = new StringBuilder();
            for (int i = 0; i < count; i++) {
                cells.append(" (").append(width[i]).append(", ").append(wish[i]).append(", ").append(weight[i])
                    .append(")");
            }
            System.out.println("length " + length + ", cells" + cells + ": " + call + " answered " + got
                + ", due is " + want);
        }
    }

    private static void oneRow() {
        length = number(0, 2) == 0 ? number(10, 60) : number(10, 24);
        count = number(0, 10);
        int widest = number(1, 5);
        int farthest = number(0, 1) == 0 ? 60 : length;
        int heaviest = number(0, 1) == 0 ? 5 : 1;
        for (int i = 0; i < count; i++) {
            width[i] = number(1, widest);
            wish[i] = number(0, farthest);
            weight[i] = number(1, heaviest);
        }
        if (placements() > MOST_PLACEMENTS) {
            return;
        }
        rows++;
        compare(made());
        for (int i = 0; i < count; i++) {
            compareEdges(made(), i);
        }
    }

    private static RowLegaliser made() {
        RowLegaliser x = new RowLegaliser(length);
        for (int i = 0; i < count; i++) {
            x.append(width[i], wish[i], weight[i]);
        }
        return x;
    }

    /** One object through many changes, so that nothing of an earlier state is left over in a later answer. */
    private static void oneRowChanged() {
        for (int run = 0; run < 40; run++) {
            length = number(10, 16);
            count = 0;
            RowLegaliser x = new RowLegaliser(length);
            for (int step = 0; step < 12; step++) {
                change(x);
                if (placements() <= MOST_PLACEMENTS) {
                    rows++;
                    compare(x);
                }
            }
        }
    }

    private static void change(RowLegaliser x) {
        int kind = number(0, 6);
        if (kind <= 2 && count < 10) {
            width[count] = number(1, 4);
            wish[count] = number(0, length);
            weight[count] = number(1, 5);
            x.append(width[count], wish[count], weight[count]);
            count++;
        } else if (kind == 3 && count > 0) {
            int cell = number(0, count - 1);
            wish[cell] = number(0, length);
            x.move(cell, wish[cell]);
        } else if (kind == 4 && count > 0) {
            int cell = number(0, count - 1);
            weight[cell] = number(1, 5);
            x.reweigh(cell, weight[cell]);
        } else if (kind == 5 && count > 1) {
            int cell = number(0, count - 2);
            x.exchange(cell);
            swap(width, cell);
            swap(wish, cell);
            swap(weight, cell);
        } else if (kind == 6 && count > 0) {
            x.drop();
            count--;
        }
    }

    private static void swap(int[] values, int cell) {
        int kept = values[cell];
        values[cell] = values[cell + 1];
        values[cell + 1] = kept;
    }

    /** The most placements that the first n cells have, for any n: (room + n) over n. */
    private static long placements() {
        long most = 1;
        int room = length;
        for (int n = 1; n <= count; n++) {
            room -= width[n - 1];
            long ways = room < 0 ? 0 : 1;
            for (int k = 1; k <= n && ways > 0; k++) {
                ways = ways * (room + k) / k;
            }
            most = Math.max(most, ways);
        }
        return most;
    }

    /** At most 34 calls: an object that is changed and compared twelve times stays below 512 calls. */
    private static void compare(RowLegaliser x) {
        for (int n = 0; n <= count; n++) {
            tryAll(n);
            due("costOf(" + n + ")", x.costOf(n), least < 0 ? RowLegaliser.NONE : least);
        }
        infeasible += least < 0 ? 1 : 0;
        due("cost()", x.cost(), least < 0 ? RowLegaliser.NONE : least);
        int room = length;
        for (int i = 0; i < count; i++) {
            room -= width[i];
            due("leftmost(" + i + ")", x.leftmost(i), least < 0 ? RowLegaliser.NONE : best[i]);
            compareEdge(x, i, number(0, length - 1));
        }
        due("room()", x.room(), room);
        due("content()", x.content(), mostContent());
    }

    private static void compareEdges(RowLegaliser x, int cell) {
        for (int edge = -2; edge <= 62; edge++) {
            compareEdge(x, cell, edge);
        }
    }

    private static void compareEdge(RowLegaliser x, int cell, int edge) {
        int at = edge < 0 || edge > 60 ? -1 : leastAt[cell][edge];
        due("costAt(" + cell + ", " + edge + ")", x.costAt(cell, edge), at < 0 ? RowLegaliser.NONE : at);
    }

    private static void tryAll(int n) {
        least = -1;
        for (int[] line : leastAt) {
            Arrays.fill(line, -1);
        }
        place(new int[n], 0, 0, 0);
    }

    private static void place(int[] edges, int cell, int free, int cost) {
        if (cell == edges.length) {
            note(edges, cost);
            return;
        }
        for (int edge = free; edge + width[cell] <= length; edge++) {
            edges[cell] = edge;
            place(edges, cell + 1, edge + width[cell], cost + weight[cell] * Math.abs(edge - wish[cell]));
        }
    }

    private static void note(int[] edges, int cost) {
        if (least < 0 || cost < least || cost == least && isFurtherLeft(edges)) {
            least = cost;
            System.arraycopy(edges, 0, best, 0, edges.length);
        }
        for (int i = 0; i < edges.length; i++) {
            int known = leastAt[i][edges[i]];
            leastAt[i][edges[i]] = known < 0 ? cost : Math.min(known, cost);
        }
    }

    private static boolean isFurtherLeft(int[] edges) {
        for (int i = edges.length - 1; i >= 0; i--) {
            if (edges[i] != best[i]) {
                return edges[i] < best[i];
            }
        }
        return false;
    }

    private static int mostContent() {
        int most = 0;
        for (int chosen = 0; chosen < 1 << count; chosen++) {
            if (allContent(chosen)) {
                most = Math.max(most, Integer.bitCount(chosen));
            }
        }
        return most;
    }

    private static boolean allContent(int chosen) {
        int free = 0;
        for (int i = 0; i < count; i++) {
            if ((chosen >> i & 1) == 1) {
                if (wish[i] < free || wish[i] + width[i] > length) {
                    return false;
                }
                free = wish[i] + width[i];
            }
        }
        return true;
    }
}
