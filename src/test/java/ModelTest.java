import java.util.Arrays;
import java.util.TreeMap;

/**
 * Long runs of all calls, with right and wrong arguments, on rows of every size: each answer is compared with that
 * of a plain model. EnumerationTest leaves out the rows that have too many placements to try; here they come up.
 * The runs come from a fixed sequence of numbers, so that every test run makes the same calls.
 */
public final class ModelTest {
    private static final int OBJECTS = 400;
    private static final int CALLS = 512;
    private static final int FREE = -1;
    private static final int FAR_TOO_MUCH = 1000000;
    private static final String[] CALL_NAMES = {
        "append", "move", "reweigh", "exchange", "drop", "cost", "costOf", "leftmost", "costAt", "room", "content",
    };
    private static final int[] ARGUMENTS = {3, 2, 2, 1, 0, 0, 1, 1, 2, 0, 0};
    // The calls by their place in CALL_NAMES, the ones with more to go wrong more often; an append may yet
    // become a drop.
    private static final int[] PICKS = {0, 0, 0, 0, 1, 2, 3, 5, 6, 7, 7, 8, 8, 8, 9, 10};

    // What each call must have answered at least once, so that the runs are known to have reached it.
    private static final String[] KINDS_DUE = {
        "append -1", "append -2", "append -3", "append -5", "append right", "move -4", "move -2", "move right",
        "reweigh -4", "reweigh -3", "reweigh right", "exchange -4", "exchange right", "drop -6", "drop right",
        "cost -6", "cost right", "costOf -4", "costOf -6", "costOf right", "leftmost -4", "leftmost -6",
        "leftmost right", "costAt -4", "costAt -6", "costAt right", "room right", "content right",
    };

    private static long seed = 512L;
    private static int wrong = 0;
    private static int largeRows = 0;
    private static final TreeMap<String, Integer> kinds = new TreeMap<>();

    private static int widest;
    private static int farthest;
    private static int heaviest;

    private static int length;
    private static int count;
    private static final int[] width = new int[10];
    private static final int[] wish = new int[10];
    private static final int[] weight = new int[10];
    private static final int[] pinned = new int[10];
    private static final int[][] known = new int[11][61];

    public static void main(String[] args) {
        for (int i = 0; i < OBJECTS; i++) {
            oneObject();
        }
        for (String kind : KINDS_DUE) {
            if (kinds.getOrDefault(kind, 0) < 100) {
                wrong++;
                System.out.println("too seldom in the runs: " + kind);
            }
        }
        if (largeRows < 1000) {
            wrong++;
            System.out.println("too few answers about large rows: " + largeRows);
        }
        System.out.println(OBJECTS + " objects compared over " + CALLS + " calls each, " + largeRows
            + " answers about rows of eight cells or more with a placement");
        System.out.println(wrong == 0 ? "all answers are as due" : wrong + " answers are not as due");
        if (wrong != 0) {
            System.exit(1);
        }
    }

    private static int number(int from, int to) {
        seed = seed * 6364136223846793005L + 1442695040888963407L;
        return from + (int) ((seed >>> 33) % (to - from + 1));
    }

    /** Mostly from the range, at times next to it or far from it. */
    private static int argument(int from, int to) {
        int kind = number(0, 39);
        if (kind == 0) {
            return from - 1;
        }
        if (kind == 1) {
            return to + 1;
        }
        if (kind == 2) {
            int[] far = {Integer.MIN_VALUE, -1000000, 1000000, Integer.MAX_VALUE};
            return far[number(0, 3)];
        }
        return number(from, to);
    }

    private static void oneObject() {
        int given = number(0, 9) == 0 ? argument(10, 60) : number(10, 60);
        length = Math.max(10, Math.min(60, given));
        count = 0;
        widest = number(1, 5);
        farthest = number(0, 1) == 0 ? 60 : length;
        heaviest = number(0, 2) == 0 ? 1 : 5;
        // Out of four appends and drops: with 1 the row is mostly empty, with 3 it is mostly full.
        int appends = number(1, 3);
        RowLegaliser x = new RowLegaliser(given);
        StringBuilder changes = new StringBuilder("new RowLegaliser(" + given + ")");
        for (int i = 0; i < CALLS; i++) {
            int call = PICKS[number(0, PICKS.length - 1)];
            oneCall(x, call == 0 && number(1, 4) > appends ? 4 : call, changes);
        }
    }

    private static void oneCall(RowLegaliser x, int call, StringBuilder changes) {
        int[] a = arguments(call);
        int want = model(call, a[0], a[1], a[2]);
        int got = answer(x, call, a[0], a[1], a[2]);
        String told = CALL_NAMES[call]
            + Arrays.toString(Arrays.copyOf(a, ARGUMENTS[call])).replace('[', '(').replace(']', ')');
        note(call, want);
        if (got != want && wrong++ < 20) {
            System.out.println(changes + "; then " + told + " answered " + got + ", due is " + want);
        }
        if (call <= 4) {
            changes.append("; ").append(told);
        }
    }

    private static int[] arguments(int call) {
        int cell = argument(0, Math.max(0, count - 1));
        switch (call) {
            case 0: return new int[] {argument(1, widest), argument(0, farthest), argument(1, heaviest)};
            case 1: return new int[] {cell, argument(0, farthest), 0};
            case 2: return new int[] {cell, argument(1, heaviest), 0};
            case 6: return new int[] {argument(0, count), 0, 0};
            default: return new int[] {cell, argument(0, length), 0};
        }
    }

    private static void note(int call, int want) {
        boolean right = want >= 0 || call == 9;
        kinds.merge(CALL_NAMES[call] + (right ? " right" : " " + want), 1, Integer::sum);
        if (right && count >= 8 && (call == 5 || call == 7 || call == 8)) {
            largeRows++;
        }
    }

    private static int answer(RowLegaliser x, int call, int a, int b, int c) {
        switch (call) {
            case 0: return x.append(a, b, c);
            case 1: return x.move(a, b);
            case 2: return x.reweigh(a, b);
            case 3: return x.exchange(a);
            case 4: return x.drop();
            case 5: return x.cost();
            case 6: return x.costOf(a);
            case 7: return x.leftmost(a);
            case 8: return x.costAt(a, b);
            case 9: return x.room();
            default: return x.content();
        }
    }

    private static int model(int call, int a, int b, int c) {
        switch (call) {
            case 0: return append(a, b, c);
            case 1: return put(wish, a, b, 0, 60, RowLegaliser.BAD_WISH);
            case 2: return put(weight, a, b, 1, 5, RowLegaliser.BAD_WEIGHT);
            case 3: return exchange(a);
            case 4: return count == 0 ? RowLegaliser.NONE : --count;
            case 5: return orNone(least(count));
            case 6: return isIn(a, 0, count) ? orNone(least(a)) : RowLegaliser.BAD_CELL;
            case 7: return isIn(a, 0, count - 1) ? leftmost(a) : RowLegaliser.BAD_CELL;
            case 8: return isIn(a, 0, count - 1) ? costAt(a, b) : RowLegaliser.BAD_CELL;
            case 9: return room();
            default: return mostContent(0, 0);
        }
    }

    private static boolean isIn(int value, int from, int to) {
        return from <= value && value <= to;
    }

    private static int append(int newWidth, int newWish, int newWeight) {
        if (!isIn(newWidth, 1, 5)) {
            return RowLegaliser.BAD_WIDTH;
        }
        if (!isIn(newWish, 0, 60)) {
            return RowLegaliser.BAD_WISH;
        }
        if (!isIn(newWeight, 1, 5)) {
            return RowLegaliser.BAD_WEIGHT;
        }
        if (count == 10) {
            return RowLegaliser.FULL;
        }
        width[count] = newWidth;
        wish[count] = newWish;
        weight[count] = newWeight;
        return count++;
    }

    private static int put(int[] values, int cell, int value, int from, int to, int refusal) {
        if (!isIn(cell, 0, count - 1)) {
            return RowLegaliser.BAD_CELL;
        }
        if (!isIn(value, from, to)) {
            return refusal;
        }
        int old = values[cell];
        values[cell] = value;
        return old;
    }

    private static int exchange(int cell) {
        if (!isIn(cell, 0, count - 2)) {
            return RowLegaliser.BAD_CELL;
        }
        for (int[] values : new int[][] {width, wish, weight}) {
            int kept = values[cell];
            values[cell] = values[cell + 1];
            values[cell + 1] = kept;
        }
        return 0;
    }

    private static int room() {
        int room = length;
        for (int i = 0; i < count; i++) {
            room -= width[i];
        }
        return room;
    }

    private static int orNone(int cost) {
        return cost >= FAR_TOO_MUCH ? RowLegaliser.NONE : cost;
    }

    private static int least(int n) {
        Arrays.fill(pinned, FREE);
        return leastWithPins(n);
    }

    private static int leastWithPins(int n) {
        for (int[] line : known) {
            Arrays.fill(line, -1);
        }
        return leastFrom(0, 0, n);
    }

    /** Of the cells from this one to the n-th, none of them left of free: this one stands there or further right. */
    private static int leastFrom(int cell, int free, int n) {
        if (cell == n) {
            return 0;
        }
        if (free + width[cell] > length) {
            return FAR_TOO_MUCH;
        }
        if (known[cell][free] < 0) {
            int right = leastFrom(cell, free + 1, n);
            int here = pinned[cell] == FREE || pinned[cell] == free
                ? weight[cell] * Math.abs(free - wish[cell]) + leastFrom(cell + 1, free + width[cell], n)
                : FAR_TOO_MUCH;
            known[cell][free] = Math.min(right, here);
        }
        return known[cell][free];
    }

    private static int costAt(int cell, int x) {
        if (!isIn(x, 0, 60)) {
            return RowLegaliser.NONE;
        }
        Arrays.fill(pinned, FREE);
        pinned[cell] = x;
        return orNone(leastWithPins(count));
    }

    /** As the promise says it: the last cell is pinned as far left as costs no more, then the one before it. */
    private static int leftmost(int cell) {
        int least = least(count);
        if (least >= FAR_TOO_MUCH) {
            return RowLegaliser.NONE;
        }
        for (int i = count - 1; i >= cell; i--) {
            pinned[i] = 0;
            while (leastWithPins(count) > least) {
                pinned[i]++;
            }
        }
        return pinned[cell];
    }

    private static int mostContent(int cell, int free) {
        if (cell == count) {
            return 0;
        }
        int without = mostContent(cell + 1, free);
        if (wish[cell] < free || wish[cell] + width[cell] > length) {
            return without;
        }
        return Math.max(without, 1 + mostContent(cell + 1, wish[cell] + width[cell]));
    }
}
