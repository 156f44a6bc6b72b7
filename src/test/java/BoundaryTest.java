import java.util.function.ToIntFunction;

/**
 * One test for each sentence of the document that names a boundary: too small, too large, empty, full, a
 * wrap-around, a refused call. Each test quotes its sentence, and what it finds wrong is told under that sentence.
 * No object here is called more than 512 times, as nothing is promised beyond.
 */
public final class BoundaryTest {
    private static final int BAD_WIDTH = -1;
    private static final int BAD_WISH = -2;
    private static final int BAD_WEIGHT = -3;
    private static final int BAD_CELL = -4;
    private static final int FULL = -5;
    private static final int NONE = -6;

    private static final int MIN = Integer.MIN_VALUE;
    private static final int MAX = Integer.MAX_VALUE;

    /** A row's length and its cells, each a width, a wish and a weight. */
    private record Row(String name, int length, int[]... cells) {
        RowLegaliser made() {
            RowLegaliser x = new RowLegaliser(length);
            for (int[] cell : cells) {
                x.append(cell[0], cell[1], cell[2]);
            }
            return x;
        }

        int count() {
            return cells.length;
        }
    }

    private static final int[][] TEN_CELLS = {
        {1, 3, 5}, {2, 0, 4}, {3, 12, 3}, {4, 11, 2}, {5, 30, 1},
        {1, 29, 1}, {2, 60, 2}, {3, 33, 3}, {4, 8, 4}, {5, 37, 5},
    };
    private static final Row EMPTY = new Row("empty", 20);
    private static final Row ONE = new Row("one cell", 20, cell(2, 4, 3));
    private static final Row THREE = new Row("three cells", 20, cell(2, 4, 3), cell(5, 10, 1), cell(1, 18, 5));
    private static final Row TOO_WIDE = new Row("1 too wide", 10, cell(5, 3, 2), cell(4, 5, 1), cell(2, 9, 3));
    private static final Row TEN = new Row("ten cells", 40, TEN_CELLS);
    private static final Row TEN_TOO_WIDE = new Row("ten cells, 1 too wide", 29, TEN_CELLS);
    private static final Row[] ROWS = {EMPTY, ONE, THREE, TOO_WIDE, TEN, TEN_TOO_WIDE};

    private static final Runnable[] TESTS = {
        BoundaryTest::atMost512Calls,
        BoundaryTest::upToTenCells,
        BoundaryTest::orderMustNotChange,
        BoundaryTest::rangesOfACell,
        BoundaryTest::rowGoesFrom0ToItsLength,
        BoundaryTest::edgeIsAtLeast0,
        BoundaryTest::edgeAndWidthAreWithinTheLength,
        BoundaryTest::cellsMayTouchAndNotOverlap,
        BoundaryTest::costIsWeightTimesDistance,
        BoundaryTest::readingCallsChangeNothing,
        BoundaryTest::lengthIsClamped,
        BoundaryTest::below10Becomes10,
        BoundaryTest::above60Becomes60,
        BoundaryTest::newObjectHasNoCells,
        BoundaryTest::appendIsAtTheRight,
        BoundaryTest::appendRefusesWidth,
        BoundaryTest::appendRefusesWish,
        BoundaryTest::appendRefusesWeight,
        BoundaryTest::appendRefusesTheEleventh,
        BoundaryTest::refusedAppendChangesNothing,
        BoundaryTest::appendAnswersItsNumber,
        BoundaryTest::cellsMayBeWiderThanTheRow,
        BoundaryTest::moveRefusesCell,
        BoundaryTest::moveRefusesWish,
        BoundaryTest::refusedMoveChangesNothing,
        BoundaryTest::moveAnswersTheOldOne,
        BoundaryTest::reweighRefusesCell,
        BoundaryTest::reweighRefusesWeight,
        BoundaryTest::refusedReweighChangesNothing,
        BoundaryTest::reweighAnswersTheOldOne,
        BoundaryTest::exchangeTakesWidthsWishesAndWeights,
        BoundaryTest::exchangeRefusesWhenOneDoesNotExist,
        BoundaryTest::refusedExchangeChangesNothing,
        BoundaryTest::exchangeAnswers0,
        BoundaryTest::dropTakesTheLast,
        BoundaryTest::dropOfNoneIsNone,
        BoundaryTest::dropAnswersHowManyAreLeft,
        BoundaryTest::costIsNoneWithoutPlacement,
        BoundaryTest::costIs0WithoutCells,
        BoundaryTest::costOfTheFirstAlone,
        BoundaryTest::costOfRefusesN,
        BoundaryTest::costOfIsNone,
        BoundaryTest::leftmostOfEqualCosts,
        BoundaryTest::leftmostRefusesCell,
        BoundaryTest::leftmostIsNoneWithoutPlacement,
        BoundaryTest::costAtRefusesCell,
        BoundaryTest::costAtIsNoneWithoutPlacement,
        BoundaryTest::roomMayBeNegative,
        BoundaryTest::contentIfOnlyThoseHadToBePlaced,
        BoundaryTest::contentIs0WithoutCells,
        BoundaryTest::contentAloneInTheRowAndInOrder,
        BoundaryTest::refusalsAreInOrder,
    };

    private static String sentence = "";
    private static int sentences = 0;
    private static int answers = 0;
    private static int wrong = 0;

    public static void main(String[] args) {
        for (Runnable test : TESTS) {
            run(test);
        }
        System.out.println(sentences + " sentences tested with " + answers + " answers");
        System.out.println(wrong == 0 ? "all answers are as due" : wrong + " answers are not as due");
        if (wrong != 0) {
            System.exit(1);
        }
    }

    /** A call that throws is told under its sentence too, and the other sentences are tested all the same. */
    private static void run(Runnable test) {
        try {
            test.run();
        } catch (RuntimeException thrown) {
            wrong++;
            System.out.println(sentence + ": a call threw " + thrown);
        }
    }

    // The document's opening

    private static void atMost512Calls() {
        says("What it is", "An object is used for at most 512 calls after it has been made");
        RowLegaliser x = new RowLegaliser(60);
        for (int call = 0; call < 512; call += 8) {
            String from = "calls from " + (call + 1) + ": ";
            due(from + "append(1, 5, 1)", x.append(1, 5, 1), 0);
            due(from + "append(2, 5, 3)", x.append(2, 5, 3), 1);
            due(from + "cost()", x.cost(), 1);
            due(from + "exchange(0)", x.exchange(0), 0);
            due(from + "leftmost(1)", x.leftmost(1), 7);
            due(from + "costAt(0, 4)", x.costAt(0, 4), 4);
            due(from + "drop()", x.drop(), 1);
            due(from + "drop()", x.drop(), 0);
        }
    }

    // Terms

    private static void upToTenCells() {
        says("Terms", "There are up to ten CELLS, numbered from 0");
        RowLegaliser x = new RowLegaliser(40);
        for (int i = 0; i < 10; i++) {
            due("append no. " + i, x.append(1, 20 + i, 1), i);
        }
        for (int i = 0; i < 10; i++) {
            due("move(" + i + ", 1) of ten", x.move(i, 1), 20 + i);
        }
        due("move(10, 1) of ten", x.move(10, 1), BAD_CELL);
        due("costOf(10) of ten", x.costOf(10), x.cost());
        due("costOf(11) of ten", x.costOf(11), BAD_CELL);
        due("move(0, 1) of none", EMPTY.made().move(0, 1), BAD_CELL);
    }

    private static void orderMustNotChange() {
        says("Terms", "in the order in which they stand in the row from left to right, which must not change");
        Row wrongWay = new Row("wrong way", 30, cell(2, 20, 1), cell(2, 4, 2));
        due("cost() of two with wishes the wrong way", wrongWay.made().cost(), 18);
        due("leftmost(0) of two with wishes the wrong way", wrongWay.made().leftmost(0), 2);
        due("leftmost(1) of two with wishes the wrong way", wrongWay.made().leftmost(1), 4);
        RowLegaliser full = new RowLegaliser(10);
        for (int i = 0; i < 10; i++) {
            full.append(1, 9 - i, 1);
        }
        due("cost() of ten that wish the other way round", full.cost(), 9 + 7 + 5 + 3 + 1 + 1 + 3 + 5 + 7 + 9);
        for (int i = 0; i < 10; i++) {
            due("leftmost(" + i + ") of ten that wish the other way round", full.leftmost(i), i);
        }
    }

    private static void rangesOfACell() {
        says("Terms", "A cell has a WIDTH (1 to 5), a WISH (0 to 60), where its left edge would like to be, "
            + "and a WEIGHT (1 to 5).");
        for (int width = 1; width <= 5; width++) {
            for (int weight = 1; weight <= 5; weight++) {
                for (int wish = 0; wish <= 60; wish++) {
                    Row row = new Row("one", 60, cell(width, wish, weight));
                    String call = "append(" + width + ", " + wish + ", " + weight + ")";
                    due(call, new RowLegaliser(60).append(width, wish, weight), 0);
                    holds("after " + call, row.made(), row);
                    due("leftmost(0) after " + call, row.made().leftmost(0), Math.min(wish, 60 - width));
                }
            }
        }
    }

    private static void rowGoesFrom0ToItsLength() {
        says("Terms", "The ROW goes from 0 to its LENGTH (10 to 60).");
        for (int length = 10; length <= 60; length++) {
            Row row = new Row("one", length, cell(1, 0, 1));
            for (int x = 0; x < length; x++) {
                due("length " + length + ": costAt(0, " + x + ")", row.made().costAt(0, x), x);
            }
            due("length " + length + ": costAt(0, -1)", row.made().costAt(0, -1), NONE);
            due("length " + length + ": costAt(0, " + length + ")", row.made().costAt(0, length), NONE);
        }
    }

    private static void edgeIsAtLeast0() {
        says("Terms", "0 <= x");
        for (int width = 1; width <= 5; width++) {
            Row row = new Row("one", 10, cell(width, 0, 2));
            String of = " of a cell " + width + " wide";
            due("costAt(0, 0)" + of, row.made().costAt(0, 0), 0);
            due("costAt(0, -1)" + of, row.made().costAt(0, -1), NONE);
            due("costAt(0, " + -width + ")" + of, row.made().costAt(0, -width), NONE);
            due("costAt(0, MIN)" + of, row.made().costAt(0, MIN), NONE);
        }
        // Were the row open to the left, the light first cell would go to -3.
        Row pushed = new Row("two", 10, cell(3, 0, 1), cell(3, 0, 5));
        due("cost() of two that wish 0", pushed.made().cost(), 15);
        due("leftmost(0) of two that wish 0", pushed.made().leftmost(0), 0);
        due("leftmost(1) of two that wish 0", pushed.made().leftmost(1), 3);
        due("costAt(1, 2), with no place for the one before", pushed.made().costAt(1, 2), NONE);
    }

    private static void edgeAndWidthAreWithinTheLength() {
        says("Terms", "x + width <= length");
        int[] lengths = {10, 11, 59, 60};
        for (int length : lengths) {
            for (int width = 1; width <= 5; width++) {
                int last = length - width;
                Row row = new Row("one", length, cell(width, last, 2));
                String in = "length " + length + ", width " + width + ": ";
                due(in + "costAt(0, " + last + ")", row.made().costAt(0, last), 0);
                due(in + "costAt(0, " + (last + 1) + ")", row.made().costAt(0, last + 1), NONE);
                due(in + "costAt(0, " + length + ")", row.made().costAt(0, length), NONE);
                due(in + "cost() at the last place", row.made().cost(), 0);
                Row beyond = new Row("one", length, cell(width, last + 1, 2));
                due(in + "cost() with the wish 1 beyond the last place", beyond.made().cost(), 2);
                due(in + "leftmost(0) with the wish 1 beyond the last place", beyond.made().leftmost(0), last);
                // Here x + width wraps around to a number below 0.
                due(in + "costAt(0, MAX)", row.made().costAt(0, MAX), NONE);
                due(in + "costAt(0, MAX - width + 1)", row.made().costAt(0, MAX - width + 1), NONE);
                due(in + "costAt(0, MAX - width)", row.made().costAt(0, MAX - width), NONE);
            }
        }
    }

    private static void cellsMayTouchAndNotOverlap() {
        says("Terms", "each cell's left edge is at least the right edge of the one before it");
        for (int width = 1; width <= 5; width++) {
            int right = 7 + width;
            String after = " of a cell behind one " + width + " wide";
            Row apart = new Row("apart", 30, cell(width, 7, 3), cell(2, right + 1, 2));
            Row touching = new Row("touching", 30, cell(width, 7, 3), cell(2, right, 2));
            Row overlapping = new Row("overlapping", 30, cell(width, 7, 3), cell(2, right - 1, 2));
            due("cost() with a gap of 1" + after, apart.made().cost(), 0);
            due("cost() when they touch" + after, touching.made().cost(), 0);
            due("cost() when they overlap by 1" + after, overlapping.made().cost(), 2);
            due("leftmost(1) when they overlap by 1" + after, overlapping.made().leftmost(1), right);
            due("costAt(1, the wish) when they overlap by 1" + after, overlapping.made().costAt(1, right - 1), 3);
            due("costAt(0, its wish) when they overlap by 1" + after, overlapping.made().costAt(0, 7), 2);
        }
    }

    private static void costIsWeightTimesDistance() {
        says("Terms", "Its COST is the sum, over all cells, of weight times the distance between x and the wish.");
        for (int weight = 1; weight <= 5; weight++) {
            Row row = new Row("one", 60, cell(1, 30, weight));
            due("costAt(0, 0), left of the wish", row.made().costAt(0, 0), 30 * weight);
            due("costAt(0, 29), left of the wish", row.made().costAt(0, 29), weight);
            due("costAt(0, 30), at the wish", row.made().costAt(0, 30), 0);
            due("costAt(0, 31), right of the wish", row.made().costAt(0, 31), weight);
            due("costAt(0, 59), right of the wish", row.made().costAt(0, 59), 29 * weight);
        }
        RowLegaliser left = new RowLegaliser(10);
        RowLegaliser right = new RowLegaliser(60);
        for (int i = 0; i < 10; i++) {
            left.append(1, 60, 5);
            right.append(1, 0, 5);
        }
        due("cost() of ten, each as far left of its wish as can be", left.cost(), 5 * (600 - 45));
        due("costAt(0, 50) of ten, each as far right of its wish as can be", right.costAt(0, 50), 5 * (500 + 45));
    }

    private static void readingCallsChangeNothing() {
        says("Terms", "The calls below change nothing.");
        for (Row row : ROWS) {
            keeps(row, "cost()", x -> x.cost());
            keeps(row, "room()", x -> x.room());
            keeps(row, "content()", x -> x.content());
            for (int n = -1; n <= row.count() + 1; n++) {
                int at = n;
                keeps(row, "costOf(" + at + ")", x -> x.costOf(at));
                keeps(row, "leftmost(" + at + ")", x -> x.leftmost(at));
                keeps(row, "costAt(" + at + ", -1)", x -> x.costAt(at, -1));
                keeps(row, "costAt(" + at + ", 0)", x -> x.costAt(at, 0));
                keeps(row, "costAt(" + at + ", 9)", x -> x.costAt(at, 9));
                keeps(row, "costAt(" + at + ", 61)", x -> x.costAt(at, 61));
            }
            keeps(row, "costOf(MAX)", x -> x.costOf(MAX));
            keeps(row, "leftmost(MAX)", x -> x.leftmost(MAX));
            keeps(row, "costAt(MAX, MAX)", x -> x.costAt(MAX, MAX));
            keeps(row, "costAt(0, MAX)", x -> x.costAt(0, MAX));
        }
    }

    // Promise 1

    private static void lengthIsClamped() {
        says("Promise 1", "length is clamped into 10 to 60");
        for (int length = 10; length <= 60; length++) {
            hasLength(length, length);
        }
    }

    private static void below10Becomes10() {
        says("Promise 1", "below 10 becomes 10");
        int[] lengths = {9, 8, 1, 0, -1, -10, -60, -1000000, MIN + 30, MIN + 1, MIN};
        for (int length : lengths) {
            hasLength(length, 10);
        }
    }

    private static void above60Becomes60() {
        says("Promise 1", "above 60 becomes 60");
        int[] lengths = {61, 62, 100, 256 + 30, 65536 + 30, 1000000, MAX - 1, MAX};
        for (int length : lengths) {
            hasLength(length, 60);
        }
    }

    private static void hasLength(int given, int length) {
        String made = "new RowLegaliser(" + given + ").";
        due(made + "room()", new RowLegaliser(given).room(), length);
        RowLegaliser x = new RowLegaliser(given);
        x.append(1, 60, 1);
        due(made + "leftmost(0) of a cell that wishes 60", x.leftmost(0), length - 1);
        due(made + "costAt(0, length)", x.costAt(0, length), NONE);
        due(made + "costAt(0, length - 1)", x.costAt(0, length - 1), 61 - length);
        x.move(0, length - 1);
        due(made + "content() of a cell at the end", x.content(), 1);
    }

    private static void newObjectHasNoCells() {
        says("Promise 1", "No cells.");
        int[] lengths = {MIN, 9, 10, 35, 60, 61, MAX};
        for (int length : lengths) {
            String made = "new RowLegaliser(" + length + ").";
            due(made + "drop()", new RowLegaliser(length).drop(), NONE);
            due(made + "move(0, 0)", new RowLegaliser(length).move(0, 0), BAD_CELL);
            due(made + "reweigh(0, 1)", new RowLegaliser(length).reweigh(0, 1), BAD_CELL);
            due(made + "exchange(0)", new RowLegaliser(length).exchange(0), BAD_CELL);
            due(made + "leftmost(0)", new RowLegaliser(length).leftmost(0), BAD_CELL);
            due(made + "costAt(0, 0)", new RowLegaliser(length).costAt(0, 0), BAD_CELL);
            due(made + "costOf(0)", new RowLegaliser(length).costOf(0), 0);
            due(made + "costOf(1)", new RowLegaliser(length).costOf(1), BAD_CELL);
            due(made + "cost()", new RowLegaliser(length).cost(), 0);
            due(made + "content()", new RowLegaliser(length).content(), 0);
            due(made + "append(1, 0, 1)", new RowLegaliser(length).append(1, 0, 1), 0);
        }
    }

    // Promise 2

    private static void appendIsAtTheRight() {
        says("Promise 2", "Appends a cell at the right.");
        for (int count = 0; count < 10; count++) {
            RowLegaliser x = first(count, TEN).made();
            x.append(TEN_CELLS[count][0], TEN_CELLS[count][1], TEN_CELLS[count][2]);
            holds("after append no. " + count, x, first(count + 1, TEN));
        }
    }

    private static void appendRefusesWidth() {
        says("Promise 2", "width not in 1 to 5: BAD_WIDTH");
        for (Row row : ROWS) {
            for (int bad : outside(1, 5)) {
                due(row, "append(" + bad + ", 3, 3)", row.made().append(bad, 3, 3), BAD_WIDTH);
            }
        }
        due("append(1, 3, 3)", EMPTY.made().append(1, 3, 3), 0);
        due("append(5, 3, 3)", EMPTY.made().append(5, 3, 3), 0);
    }

    private static void appendRefusesWish() {
        says("Promise 2", "wish not in 0 to 60: BAD_WISH");
        for (Row row : ROWS) {
            for (int bad : outside(0, 60)) {
                due(row, "append(3, " + bad + ", 3)", row.made().append(3, bad, 3), BAD_WISH);
            }
        }
        due("append(3, 0, 3)", EMPTY.made().append(3, 0, 3), 0);
        due("append(3, 60, 3), though the row is 20 long", EMPTY.made().append(3, 60, 3), 0);
    }

    private static void appendRefusesWeight() {
        says("Promise 2", "weight not in 1 to 5: BAD_WEIGHT");
        for (Row row : ROWS) {
            for (int bad : outside(1, 5)) {
                due(row, "append(3, 3, " + bad + ")", row.made().append(3, 3, bad), BAD_WEIGHT);
            }
        }
        due("append(3, 3, 1)", EMPTY.made().append(3, 3, 1), 0);
        due("append(3, 3, 5)", EMPTY.made().append(3, 3, 5), 0);
    }

    private static void appendRefusesTheEleventh() {
        says("Promise 2", "there are ten: FULL");
        due("append of the tenth", first(9, TEN).made().append(3, 3, 3), 9);
        due("append of the tenth, the cells too wide", first(9, TEN_TOO_WIDE).made().append(3, 3, 3), 9);
        due("append of the eleventh", TEN.made().append(3, 3, 3), FULL);
        due("append of the eleventh, the cells too wide", TEN_TOO_WIDE.made().append(3, 3, 3), FULL);
        RowLegaliser x = TEN.made();
        x.append(3, 3, 3);
        due("append of the eleventh once more", x.append(1, 0, 1), FULL);
        x.drop();
        due("append after FULL and drop()", x.append(3, 3, 3), 9);
        due("append when there are ten again", x.append(3, 3, 3), FULL);
    }

    private static void refusedAppendChangesNothing() {
        says("Promise 2", "there are ten: FULL; nothing changes then.");
        for (Row row : ROWS) {
            for (int bad : outside(1, 5)) {
                keeps(row, "append(" + bad + ", 7, 2)", x -> x.append(bad, 7, 2));
                keeps(row, "append(2, 7, " + bad + ")", x -> x.append(2, 7, bad));
            }
            for (int bad : outside(0, 60)) {
                keeps(row, "append(2, " + bad + ", 2)", x -> x.append(2, bad, 2));
            }
            keeps(row, "append(0, 61, 0)", x -> x.append(0, 61, 0));
        }
        keeps(TEN, "append(2, 7, 2)", x -> x.append(2, 7, 2));
        keeps(TEN_TOO_WIDE, "append(2, 7, 2)", x -> x.append(2, 7, 2));
    }

    private static void appendAnswersItsNumber() {
        says("Promise 2", "Else answers its number.");
        RowLegaliser x = new RowLegaliser(60);
        for (int i = 0; i < 10; i++) {
            due("append after a refusal, with " + i + " there", x.append(6, 0, 1), BAD_WIDTH);
            due("append no. " + i, x.append(5, 60, 5), i);
        }
        for (int i = 9; i >= 0; i--) {
            x.drop();
            due("append after drop(), with " + i + " there", x.append(1, 0, 1), i);
            x.drop();
        }
    }

    private static void cellsMayBeWiderThanTheRow() {
        says("Promise 2", "(All cells together may be wider than the row.)");
        RowLegaliser x = new RowLegaliser(10);
        for (int i = 0; i < 10; i++) {
            due("append(5, " + i + ", 1) in a row of 10", x.append(5, i, 1), i);
        }
        for (int i = 0; i < 10; i++) {
            due("move(" + i + ", 0) in a row of 10", x.move(i, 0), i);
        }
        due("append(1, 9, 3) with room 0", new Row("full", 10, cell(5, 0, 1), cell(5, 5, 1)).made().append(1, 9, 3), 2);
        holds("when 1 too wide", TOO_WIDE.made(), TOO_WIDE);
    }

    // Promise 3

    private static void moveRefusesCell() {
        says("Promise 3", "There is no such cell: BAD_CELL");
        for (Row row : ROWS) {
            for (int bad : outside(0, row.count() - 1)) {
                due(row, "move(" + bad + ", 5)", row.made().move(bad, 5), BAD_CELL);
            }
        }
        due("move(2, 5) of three", THREE.made().move(2, 5), 18);
        RowLegaliser dropped = THREE.made();
        dropped.drop();
        due("move(2, 5) of three once the last is out", dropped.move(2, 5), BAD_CELL);
    }

    private static void moveRefusesWish() {
        says("Promise 3", "wish not in 0 to 60: BAD_WISH");
        for (Row row : ROWS) {
            for (int cell = 0; cell < row.count(); cell++) {
                for (int bad : outside(0, 60)) {
                    due(row, "move(" + cell + ", " + bad + ")", row.made().move(cell, bad), BAD_WISH);
                }
            }
        }
        due("move(0, 0)", ONE.made().move(0, 0), 4);
        due("move(0, 60), though the row is 20 long", ONE.made().move(0, 60), 4);
    }

    private static void refusedMoveChangesNothing() {
        says("Promise 3", "wish not in 0 to 60: BAD_WISH; nothing changes then.");
        for (Row row : ROWS) {
            for (int bad : outside(0, row.count() - 1)) {
                keeps(row, "move(" + bad + ", 5)", x -> x.move(bad, 5));
                keeps(row, "move(" + bad + ", 61)", x -> x.move(bad, 61));
            }
            for (int i = 0; i < row.count(); i++) {
                int cell = i;
                for (int bad : outside(0, 60)) {
                    keeps(row, "move(" + cell + ", " + bad + ")", x -> x.move(cell, bad));
                }
            }
        }
    }

    private static void moveAnswersTheOldOne() {
        says("Promise 3", "Else answers the old one.");
        for (int i = 0; i < 10; i++) {
            RowLegaliser x = TEN.made();
            due("move(" + i + ", 0)", x.move(i, 0), TEN_CELLS[i][1]);
            due("move(" + i + ", 60) after 0", x.move(i, 60), 0);
            due("move(" + i + ", 61) after 60", x.move(i, 61), BAD_WISH);
            due("move(" + i + ", 60) after the refusal", x.move(i, 60), 60);
            due("move(" + i + ", the first wish) after 60", x.move(i, TEN_CELLS[i][1]), 60);
            holds("after the moves of cell " + i, x, TEN);
        }
        due("move(2, 0) where there is no placement", TOO_WIDE.made().move(2, 0), 9);
    }

    // Promise 4

    private static void reweighRefusesCell() {
        says("Promise 4", "Gives a cell another weight. BAD_CELL");
        for (Row row : ROWS) {
            for (int bad : outside(0, row.count() - 1)) {
                due(row, "reweigh(" + bad + ", 3)", row.made().reweigh(bad, 3), BAD_CELL);
            }
        }
        due("reweigh(2, 3) of three", THREE.made().reweigh(2, 3), 5);
        RowLegaliser dropped = THREE.made();
        dropped.drop();
        due("reweigh(2, 3) of three once the last is out", dropped.reweigh(2, 3), BAD_CELL);
    }

    private static void reweighRefusesWeight() {
        says("Promise 4", "weight not in 1 to 5: BAD_WEIGHT");
        for (Row row : ROWS) {
            for (int cell = 0; cell < row.count(); cell++) {
                for (int bad : outside(1, 5)) {
                    due(row, "reweigh(" + cell + ", " + bad + ")", row.made().reweigh(cell, bad), BAD_WEIGHT);
                }
            }
        }
        due("reweigh(0, 1)", ONE.made().reweigh(0, 1), 3);
        due("reweigh(0, 5)", ONE.made().reweigh(0, 5), 3);
    }

    private static void refusedReweighChangesNothing() {
        says("Promise 4", "weight not in 1 to 5: BAD_WEIGHT; nothing changes then.");
        for (Row row : ROWS) {
            for (int bad : outside(0, row.count() - 1)) {
                keeps(row, "reweigh(" + bad + ", 2)", x -> x.reweigh(bad, 2));
                keeps(row, "reweigh(" + bad + ", 6)", x -> x.reweigh(bad, 6));
            }
            for (int i = 0; i < row.count(); i++) {
                int cell = i;
                for (int bad : outside(1, 5)) {
                    keeps(row, "reweigh(" + cell + ", " + bad + ")", x -> x.reweigh(cell, bad));
                }
            }
        }
    }

    private static void reweighAnswersTheOldOne() {
        says("Promise 4", "Else answers the old one.");
        for (int i = 0; i < 10; i++) {
            RowLegaliser x = TEN.made();
            due("reweigh(" + i + ", 1)", x.reweigh(i, 1), TEN_CELLS[i][2]);
            due("reweigh(" + i + ", 5) after 1", x.reweigh(i, 5), 1);
            due("reweigh(" + i + ", 0) after 5", x.reweigh(i, 0), BAD_WEIGHT);
            due("reweigh(" + i + ", 5) after the refusal", x.reweigh(i, 5), 5);
            due("reweigh(" + i + ", the first weight) after 5", x.reweigh(i, TEN_CELLS[i][2]), 5);
            holds("after the reweighs of cell " + i, x, TEN);
        }
        due("reweigh(2, 1) where there is no placement", TOO_WIDE.made().reweigh(2, 1), 3);
    }

    // Promise 5

    private static void exchangeTakesWidthsWishesAndWeights() {
        says("Promise 5", "Exchanges two cells that stand side by side, with widths, wishes and weights: "
            + "cell and cell + 1.");
        for (Row row : ROWS) {
            for (int cell = 0; cell < row.count() - 1; cell++) {
                RowLegaliser x = row.made();
                x.exchange(cell);
                holds("after exchange(" + cell + ") of " + row.name(), x, exchanged(row, cell));
                RowLegaliser twice = row.made();
                twice.exchange(cell);
                twice.exchange(cell);
                holds("after exchange(" + cell + ") of " + row.name() + " twice", twice, row);
            }
        }
    }

    private static void exchangeRefusesWhenOneDoesNotExist() {
        says("Promise 5", "One doesn't exist: BAD_CELL");
        for (Row row : ROWS) {
            // The last cell exists, but the one behind it doesn't; -1 + 1 exists, but -1 doesn't.
            for (int bad : outside(0, row.count() - 2)) {
                due(row, "exchange(" + bad + ")", row.made().exchange(bad), BAD_CELL);
            }
            due(row, "exchange(the last)", row.made().exchange(row.count() - 1), BAD_CELL);
            due(row, "exchange(-1)", row.made().exchange(-1), BAD_CELL);
            // Here cell + 1 wraps around to a number below 0.
            due(row, "exchange(MAX)", row.made().exchange(MAX), BAD_CELL);
        }
        RowLegaliser dropped = THREE.made();
        dropped.drop();
        due("exchange(1) of three once the last is out", dropped.exchange(1), BAD_CELL);
        due("exchange(0) of three once the last is out", dropped.exchange(0), 0);
    }

    private static void refusedExchangeChangesNothing() {
        says("Promise 5", "One doesn't exist: BAD_CELL, nothing changes.");
        for (Row row : ROWS) {
            for (int bad : outside(0, row.count() - 2)) {
                keeps(row, "exchange(" + bad + ")", x -> x.exchange(bad));
            }
        }
    }

    private static void exchangeAnswers0() {
        says("Promise 5", "Else answers 0.");
        for (Row row : ROWS) {
            for (int cell = 0; cell < row.count() - 1; cell++) {
                due(row, "exchange(" + cell + ")", row.made().exchange(cell), 0);
            }
        }
    }

    // Promise 6

    private static void dropTakesTheLast() {
        says("Promise 6", "Takes the last cell out.");
        for (Row row : ROWS) {
            for (int left = row.count() - 1; left >= 0; left--) {
                RowLegaliser x = row.made();
                for (int i = row.count(); i > left; i--) {
                    x.drop();
                }
                Row kept = first(left, row);
                sameReadings("after drops: " + kept.name(), readings(x, left), readings(kept.made(), left));
                holds("after drops: " + kept.name(), x, kept);
            }
        }
    }

    private static void dropOfNoneIsNone() {
        says("Promise 6", "There is none: NONE.");
        due("drop() of a new one", EMPTY.made().drop(), NONE);
        RowLegaliser x = ONE.made();
        due("drop() of one", x.drop(), 0);
        due("drop() of none", x.drop(), NONE);
        due("drop() of none once more", x.drop(), NONE);
        due("append(2, 4, 3) after drop() of none", x.append(2, 4, 3), 0);
        holds("after drop() of none and append(2, 4, 3)", x, ONE);
        keeps(EMPTY, "drop()", y -> y.drop());
    }

    private static void dropAnswersHowManyAreLeft() {
        says("Promise 6", "Else answers how many are left.");
        RowLegaliser fits = TEN.made();
        RowLegaliser tooWide = TEN_TOO_WIDE.made();
        for (int left = 9; left >= 0; left--) {
            due("drop() with " + left + " others", fits.drop(), left);
            due("drop() with " + left + " others, the cells too wide", tooWide.drop(), left);
        }
    }

    // Promise 7

    private static void costIsNoneWithoutPlacement() {
        says("Promise 7", "The least cost of a placement; NONE if there is none");
        for (int last = 1; last <= 5; last++) {
            int middle = 6 - last;
            Row exact = new Row("room 0", 10, cell(4, 0, 1), cell(middle, 4, 1), cell(last, 10 - last, 1));
            Row over = new Row("room -1", 10, cell(5, 0, 1), cell(middle, 5, 1), cell(last, 10 - last, 1));
            due("cost() with room 0, the last " + last + " wide", exact.made().cost(), 0);
            due("cost() with room -1, the last " + last + " wide", over.made().cost(), NONE);
        }
        due("cost() with room 0", new Row("room 0", 10, cell(5, 3, 2), cell(5, 3, 3)).made().cost(), 12);
        due("cost() of ten, 1 too wide", TEN_TOO_WIDE.made().cost(), NONE);
        due("cost() of the widest cells in the shortest row", tenOf(10, 5).cost(), NONE);
        due("cost() of the widest cells in the longest row", tenOf(60, 5).cost(), 5 * 5 * 45);
        RowLegaliser dropped = TOO_WIDE.made();
        dropped.drop();
        due("cost() once the last, too much, is out", dropped.cost(), 4 + 1);
    }

    private static void costIs0WithoutCells() {
        says("Promise 7", "NONE if there is none; 0 without cells.");
        int[] lengths = {MIN, 10, 60, MAX};
        for (int length : lengths) {
            due("new RowLegaliser(" + length + ").cost()", new RowLegaliser(length).cost(), 0);
        }
        for (Row row : ROWS) {
            due(row, "cost() once all are out", emptied(row).cost(), 0);
        }
    }

    // Promise 8

    private static void costOfTheFirstAlone() {
        says("Promise 8", "The least cost of a placement of the first n cells alone (in the same row)");
        for (Row row : ROWS) {
            for (int n = 0; n <= row.count(); n++) {
                due(row, "costOf(" + n + ")", row.made().costOf(n), first(n, row).made().cost());
            }
        }
        // The whole row is there for the first cell, though the second needs a part of it.
        Row right = new Row("two at the end", 10, cell(2, 8, 1), cell(2, 8, 1));
        due("costOf(1) at the row's end", right.made().costOf(1), 0);
        due("costOf(2) at the row's end", right.made().costOf(2), 2);
        // That all cells have no placement is nothing to the first two.
        due("costOf(0) of 1 too wide", TOO_WIDE.made().costOf(0), 0);
        due("costOf(1) of 1 too wide", TOO_WIDE.made().costOf(1), 0);
        due("costOf(2) of 1 too wide", TOO_WIDE.made().costOf(2), 4 + 1);
    }

    private static void costOfRefusesN() {
        says("Promise 8", "n not in 0 to the number of cells: BAD_CELL");
        for (Row row : ROWS) {
            for (int bad : outside(0, row.count())) {
                due(row, "costOf(" + bad + ")", row.made().costOf(bad), BAD_CELL);
            }
            due(row, "costOf(0)", row.made().costOf(0), 0);
            due(row, "costOf(the number of cells)", row.made().costOf(row.count()), row.made().cost());
        }
        RowLegaliser dropped = THREE.made();
        dropped.drop();
        due("costOf(3) of three once the last is out", dropped.costOf(3), BAD_CELL);
        due("costOf(2) of three once the last is out", dropped.costOf(2), 0);
    }

    private static void costOfIsNone() {
        says("Promise 8", "BAD_CELL; NONE.");
        due("costOf(3) of 1 too wide", TOO_WIDE.made().costOf(3), NONE);
        due("costOf(10) of ten, 1 too wide", TEN_TOO_WIDE.made().costOf(10), NONE);
        for (int n = 0; n <= 10; n++) {
            int cost = tenOf(10, 5).costOf(n);
            due("costOf(" + n + ") of the widest cells in the shortest row", cost, n == 2 ? 25 : n < 2 ? 0 : NONE);
        }
    }

    // Promise 9

    private static void leftmostOfEqualCosts() {
        says("Promise 9", "in which the last cell is as far left as in any of least cost, "
            + "then the one before it, and so on");
        Row two = new Row("two alike", 30, cell(5, 10, 1), cell(5, 12, 1));
        due("leftmost(1) of two alike", two.made().leftmost(1), 12);
        due("leftmost(0) of two alike", two.made().leftmost(0), 7);
        // At the row's start nothing is further left, so the first stays at 0.
        Row start = new Row("two alike at 0", 30, cell(5, 0, 1), cell(5, 0, 1));
        due("leftmost(1) of two alike at 0", start.made().leftmost(1), 5);
        due("leftmost(0) of two alike at 0", start.made().leftmost(0), 0);
        // At the row's end the last can't go further right, and needn't.
        Row end = new Row("two alike at the end", 30, cell(5, 25, 1), cell(5, 25, 1));
        due("leftmost(1) of two alike at the end", end.made().leftmost(1), 25);
        due("leftmost(0) of two alike at the end", end.made().leftmost(0), 20);
        Row four = new Row("four alike", 30, cell(2, 10, 1), cell(2, 10, 1), cell(2, 10, 1), cell(2, 10, 1));
        int[] edges = {6, 8, 10, 12};
        for (int i = 0; i < 4; i++) {
            due("leftmost(" + i + ") of four alike", four.made().leftmost(i), edges[i]);
        }
        due("leftmost(0) of one that wishes 0", new Row("one", 10, cell(5, 0, 1)).made().leftmost(0), 0);
        due("leftmost(0) of one that wishes 1", new Row("one", 10, cell(5, 1, 1)).made().leftmost(0), 1);
        due("leftmost(0) of one that wishes 60", new Row("one", 10, cell(5, 60, 1)).made().leftmost(0), 5);
        due("leftmost(0) in the longest row", new Row("one", 60, cell(1, 60, 1)).made().leftmost(0), 59);
        for (int i = 0; i < 10; i++) {
            due("leftmost(" + i + ") of ten with room 0", tenOf(10, 1).leftmost(i), i);
        }
    }

    private static void leftmostRefusesCell() {
        says("Promise 9", "and so on; BAD_CELL");
        for (Row row : ROWS) {
            for (int bad : outside(0, row.count() - 1)) {
                due(row, "leftmost(" + bad + ")", row.made().leftmost(bad), BAD_CELL);
            }
        }
        due("leftmost(2) of three", THREE.made().leftmost(2), 18);
        RowLegaliser dropped = THREE.made();
        dropped.drop();
        due("leftmost(2) of three once the last is out", dropped.leftmost(2), BAD_CELL);
    }

    private static void leftmostIsNoneWithoutPlacement() {
        says("Promise 9", "NONE if there is no placement.");
        for (int i = 0; i < 3; i++) {
            due("leftmost(" + i + ") of 1 too wide", TOO_WIDE.made().leftmost(i), NONE);
        }
        for (int i = 0; i < 10; i++) {
            due("leftmost(" + i + ") of ten, 1 too wide", TEN_TOO_WIDE.made().leftmost(i), NONE);
            due("leftmost(" + i + ") of the widest cells in the shortest row", tenOf(10, 5).leftmost(i), NONE);
        }
        RowLegaliser dropped = TOO_WIDE.made();
        dropped.drop();
        due("leftmost(1) once the last, too much, is out", dropped.leftmost(1), 6);
        due("leftmost(0) once the last, too much, is out", dropped.leftmost(0), 1);
    }

    // Promise 10

    private static void costAtRefusesCell() {
        says("Promise 10", "in which the cell's left edge is x; BAD_CELL");
        for (Row row : ROWS) {
            for (int bad : outside(0, row.count() - 1)) {
                due(row, "costAt(" + bad + ", 5)", row.made().costAt(bad, 5), BAD_CELL);
            }
        }
        due("costAt(2, 18) of three", THREE.made().costAt(2, 18), 0);
        RowLegaliser dropped = THREE.made();
        dropped.drop();
        due("costAt(2, 18) of three once the last is out", dropped.costAt(2, 18), BAD_CELL);
    }

    private static void costAtIsNoneWithoutPlacement() {
        says("Promise 10", "BAD_CELL; NONE if there is none.");
        for (int i = 0; i < 3; i++) {
            for (int bad : outside(0, 20 - THREE.cells()[i][0])) {
                due("costAt(" + i + ", " + bad + ") of three", THREE.made().costAt(i, bad), NONE);
            }
        }
        // 2, 5 and 1 wide in a row of 20: the first place and the last for each of them.
        due("costAt(0, 0) of three", THREE.made().costAt(0, 0), 12);
        due("costAt(0, 12) of three", THREE.made().costAt(0, 12), 24 + 4 + 5);
        due("costAt(0, 13) of three", THREE.made().costAt(0, 13), NONE);
        due("costAt(1, 1) of three", THREE.made().costAt(1, 1), NONE);
        due("costAt(1, 2) of three", THREE.made().costAt(1, 2), 12 + 8);
        due("costAt(1, 14) of three", THREE.made().costAt(1, 14), 4 + 5);
        due("costAt(1, 15) of three", THREE.made().costAt(1, 15), NONE);
        due("costAt(2, 6) of three", THREE.made().costAt(2, 6), NONE);
        due("costAt(2, 7) of three", THREE.made().costAt(2, 7), 12 + 8 + 55);
        due("costAt(2, 19) of three", THREE.made().costAt(2, 19), 5);
        due("costAt(2, 20) of three", THREE.made().costAt(2, 20), NONE);
        for (int x = 0; x < 10; x++) {
            for (int i = 0; i < 3; i++) {
                due("costAt(" + i + ", " + x + ") of 1 too wide", TOO_WIDE.made().costAt(i, x), NONE);
            }
            for (int i = 0; i < 10; i++) {
                int only = x == i ? 5 * 45 : NONE;
                due("costAt(" + i + ", " + x + ") of ten with room 0", tenOf(10, 1).costAt(i, x), only);
            }
        }
    }

    // Promise 11

    private static void roomMayBeNegative() {
        says("Promise 11", "How much room the row has beyond all cells' widths (may be negative).");
        for (int width = 1; width <= 5; width++) {
            for (int length = 10; length <= 60; length += 50) {
                RowLegaliser x = new RowLegaliser(length);
                for (int count = 1; count <= 10; count++) {
                    x.append(width, 0, 1);
                    due("room() of " + count + " cells " + width + " wide in a row of " + length, x.room(),
                        length - count * width);
                }
            }
        }
        // These are also the numbers of the refusals.
        RowLegaliser x = new Row("room 0", 10, cell(5, 0, 1), cell(5, 0, 1)).made();
        for (int room = -1; room >= -8; room--) {
            x.append(1, 0, 1);
            due("room() of cells " + -room + " too wide", x.room(), room);
        }
        due("room() without cells", EMPTY.made().room(), 20);
        due("room() once all are out", emptied(TEN_TOO_WIDE).room(), 29);
    }

    // Promise 12

    private static void contentIfOnlyThoseHadToBePlaced() {
        says("Promise 12", "How many cells could stand exactly at their wishes, all at once, "
            + "if only those had to be placed");
        due("content() of 1 too wide", TOO_WIDE.made().content(), 1);
        due("content() of two that fill the row and one more",
            new Row("three", 10, cell(5, 0, 1), cell(5, 1, 1), cell(5, 5, 1)).made().content(), 2);
        // The cell in the middle has no place left between the others, and needs none.
        due("content() of three, with no gap for the middle one",
            new Row("three", 10, cell(5, 0, 1), cell(1, 9, 1), cell(5, 5, 1)).made().content(), 2);
        RowLegaliser all = new RowLegaliser(10);
        for (int i = 0; i < 10; i++) {
            all.append(1, i, 1);
        }
        due("content() of ten with room 0", all.content(), 10);
        due("content() of ten with one wish", tenOf(10, 1).content(), 1);
        all.move(9, 10);
        due("content() of ten, the last beyond the row", all.content(), 9);
        // Not one of them could stand at its wish, though all of them have a placement.
        due("content() of two that wish beyond the row",
            new Row("two", 10, cell(1, 10, 1), cell(1, 11, 1)).made().content(), 0);
    }

    private static void contentIs0WithoutCells() {
        says("Promise 12", "0 without cells");
        due("content() of a new one", EMPTY.made().content(), 0);
        for (Row row : ROWS) {
            due(row, "content() once all are out", emptied(row).content(), 0);
        }
    }

    private static void contentAloneInTheRowAndInOrder() {
        says("Promise 12", "the greatest number of cells that, alone in the row and in order, "
            + "have a placement of cost 0");
        int[] lengths = {10, 60};
        for (int length : lengths) {
            for (int width = 1; width <= 5; width++) {
                int last = length - width;
                String in = " of a cell " + width + " wide in a row of " + length;
                due("content() at 0" + in, new Row("one", length, cell(width, 0, 1)).made().content(), 1);
                due("content() at the end" + in, new Row("one", length, cell(width, last, 1)).made().content(), 1);
                due("content() 1 beyond" + in, new Row("one", length, cell(width, last + 1, 1)).made().content(), 0);
                due("content() at 60" + in, new Row("one", length, cell(width, 60, 1)).made().content(), 0);
            }
        }
        for (int width = 1; width <= 5; width++) {
            String with = " with the first " + width + " wide";
            Row touching = new Row("two", 20, cell(width, 4, 1), cell(2, 4 + width, 1));
            Row overlapping = new Row("two", 20, cell(width, 4, 1), cell(2, 3 + width, 1));
            due("content() of two that touch" + with, touching.made().content(), 2);
            due("content() of two that overlap by 1" + with, overlapping.made().content(), 1);
        }
        due("content() of two in the wrong order",
            new Row("two", 20, cell(2, 10, 1), cell(2, 4, 1)).made().content(), 1);
        due("content() of three, the first in the way",
            new Row("three", 20, cell(2, 10, 1), cell(2, 4, 1), cell(2, 6, 1)).made().content(), 2);
        due("content() of four, the second in the way",
            new Row("four", 20, cell(2, 4, 1), cell(2, 15, 1), cell(2, 6, 1), cell(2, 8, 1)).made().content(), 3);
        due("content() of none that fits", new Row("two", 10, cell(5, 6, 1), cell(5, 60, 1)).made().content(), 0);
    }

    // Promise 13

    private static void refusalsAreInOrder() {
        says("Promise 13", "In each call refusals are tested in the order in which they are named.");
        appendRefusesInOrder();
        moveAndReweighRefuseInOrder();
        readingCallsRefuseInOrder();
    }

    private static void appendRefusesInOrder() {
        int[] widths = {3, 0, 6, MIN, MAX};
        int[] wishes = {3, -1, 61, MIN, MAX};
        int[] weights = {3, 0, 6, MIN, MAX};
        for (Row row : ROWS) {
            for (int width : widths) {
                for (int wish : wishes) {
                    for (int weight : weights) {
                        int due = width != 3 ? BAD_WIDTH : wish != 3 ? BAD_WISH : weight != 3 ? BAD_WEIGHT
                            : row.count() == 10 ? FULL : row.count();
                        String call = "append(" + width + ", " + wish + ", " + weight + ")";
                        due(row, call, row.made().append(width, wish, weight), due);
                    }
                }
            }
        }
    }

    private static void moveAndReweighRefuseInOrder() {
        for (Row row : ROWS) {
            for (int cell : outside(0, row.count() - 1)) {
                for (int wish : outside(0, 60)) {
                    due(row, "move(" + cell + ", " + wish + ")", row.made().move(cell, wish), BAD_CELL);
                }
                for (int weight : outside(1, 5)) {
                    due(row, "reweigh(" + cell + ", " + weight + ")", row.made().reweigh(cell, weight), BAD_CELL);
                }
            }
        }
    }

    private static void readingCallsRefuseInOrder() {
        Row[] withoutPlacement = {TOO_WIDE, TEN_TOO_WIDE};
        for (Row row : withoutPlacement) {
            for (int n : outside(0, row.count())) {
                due(row, "costOf(" + n + ")", row.made().costOf(n), BAD_CELL);
            }
            for (int cell : outside(0, row.count() - 1)) {
                due(row, "leftmost(" + cell + ")", row.made().leftmost(cell), BAD_CELL);
                due(row, "costAt(" + cell + ", 0)", row.made().costAt(cell, 0), BAD_CELL);
            }
        }
        for (Row row : ROWS) {
            for (int cell : outside(0, row.count() - 1)) {
                for (int edge : outside(0, 60)) {
                    due(row, "costAt(" + cell + ", " + edge + ")", row.made().costAt(cell, edge), BAD_CELL);
                }
            }
        }
    }

    // What the tests share

    private static void says(String where, String words) {
        sentence = where + ", \"" + words + "\"";
        sentences++;
    }

    private static void due(String call, int got, int want) {
        answers++;
        if (got != want) {
            wrong++;
            System.out.println(sentence + ": " + call + " answered " + got + ", due is " + want);
        }
    }

    private static void due(Row row, String call, int got, int want) {
        due(row.name() + ": " + call, got, want);
    }

    private static int[] cell(int width, int wish, int weight) {
        return new int[] {width, wish, weight};
    }

    private static Row first(int n, Row row) {
        int[][] cells = new int[n][];
        System.arraycopy(row.cells(), 0, cells, 0, n);
        return new Row("the first " + n + " of " + row.name(), row.length(), cells);
    }

    private static Row exchanged(Row row, int cell) {
        int[][] cells = row.cells().clone();
        cells[cell] = row.cells()[cell + 1];
        cells[cell + 1] = row.cells()[cell];
        return new Row(row.name() + " exchanged", row.length(), cells);
    }

    private static RowLegaliser emptied(Row row) {
        RowLegaliser x = row.made();
        for (int i = 0; i < row.count(); i++) {
            x.drop();
        }
        return x;
    }

    /** Ten cells that all wish 0 with weight 5. */
    private static RowLegaliser tenOf(int length, int width) {
        RowLegaliser x = new RowLegaliser(length);
        for (int i = 0; i < 10; i++) {
            x.append(width, 0, 5);
        }
        return x;
    }

    /**
     * Numbers outside a range: next to it, far from it, and some whose low 8, 16 or 31 bits are in it.
     * The range may be empty, from 0 to -1 or -2.
     */
    private static int[] outside(int least, int most) {
        int above = most < least ? least : most + 1;
        return new int[] {
            least - 1, least - 2, above, above + 1, -above - 1, -1000, 1000, least + 256, least + 65536,
            MIN, MIN + 1, MIN + least, MAX - 1, MAX,
        };
    }

    /** The call must be felt neither in the readings after it nor in the state, be the row read before or not. */
    private static void keeps(Row row, String call, ToIntFunction<RowLegaliser> made) {
        String after = "after " + call + " of " + row.name();
        RowLegaliser x = row.made();
        int[] before = readings(x, row.count());
        made.applyAsInt(x);
        sameReadings(after, readings(x, row.count()), before);
        holds(after, x, row);
        RowLegaliser unread = row.made();
        made.applyAsInt(unread);
        holds(after + ", unread before", unread, row);
    }

    private static int[] readings(RowLegaliser x, int count) {
        int[] read = new int[5 + 5 * (count + 1)];
        int next = 0;
        read[next++] = x.cost();
        read[next++] = x.room();
        read[next++] = x.content();
        for (int i = 0; i <= count; i++) {
            read[next++] = x.leftmost(i);
            read[next++] = x.costAt(i, 0);
            read[next++] = x.costAt(i, i);
            read[next++] = x.costAt(i, 9);
            read[next++] = x.costOf(i);
        }
        read[next++] = x.costOf(count + 1);
        read[next++] = x.cost();
        return read;
    }

    private static void sameReadings(String after, int[] got, int[] want) {
        for (int i = 0; i < want.length; i++) {
            due(after + ": reading no. " + i, got[i], want[i]);
        }
    }

    /** Takes the object apart, cell by cell from the last, to see its whole state; it is of no use afterwards. */
    private static void holds(String after, RowLegaliser x, Row row) {
        int room = row.length();
        for (int[] cell : row.cells()) {
            room -= cell[0];
        }
        due(after + ": costOf(the number of cells + 1)", x.costOf(row.count() + 1), BAD_CELL);
        due(after + ": room()", x.room(), room);
        for (int i = row.count() - 1; i >= 0; i--) {
            due(after + ": the wish of " + i, x.move(i, 0), row.cells()[i][1]);
            due(after + ": the weight of " + i, x.reweigh(i, 1), row.cells()[i][2]);
            due(after + ": drop() of " + i, x.drop(), i);
            room += row.cells()[i][0];
            due(after + ": room() without " + i, x.room(), room);
        }
        due(after + ": drop() when all are out", x.drop(), NONE);
    }
}
