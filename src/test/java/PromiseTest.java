/** Each promise of the document in turn: ordinary inputs, edges and wrong inputs, with answers worked out by hand. */
public final class PromiseTest {
    private static final int[] FAR = {Integer.MIN_VALUE, -1000000, 1000000, Integer.MAX_VALUE};

    private static int wrong = 0;

    private static void due(int promise, String call, int got, int want) {
        if (got != want) {
            wrong++;
            System.out.println("promise " + promise + ": " + call + " answered " + got + ", due is " + want);
        }
    }

    public static void main(String[] args) {
        newObject();
        append();
        appendRefuses();
        appendFull();
        move();
        reweigh();
        exchange();
        drop();
        cost();
        costOf();
        leftmost();
        costAt();
        room();
        content();
        orderOfRefusals();
        readingChangesNothing();
        objectsAreApart();
        System.out.println(wrong == 0 ? "all answers are as due" : wrong + " answers are not as due");
        if (wrong != 0) {
            System.exit(1);
        }
    }

    private static RowLegaliser row(int length, int[]... cells) {
        RowLegaliser x = new RowLegaliser(length);
        for (int[] cell : cells) {
            x.append(cell[0], cell[1], cell[2]);
        }
        return x;
    }

    private static int[] cell(int width, int wish, int weight) {
        return new int[] {width, wish, weight};
    }

    private static void newObject() {
        int[][] lengths = {
            {10, 10}, {11, 11}, {35, 35}, {59, 59}, {60, 60},
            {9, 10}, {0, 10}, {-1, 10}, {-60, 10}, {61, 60}, {100, 60},
            {Integer.MIN_VALUE, 10}, {Integer.MAX_VALUE, 60},
        };
        for (int[] pair : lengths) {
            RowLegaliser x = new RowLegaliser(pair[0]);
            String made = "new RowLegaliser(" + pair[0] + ").";
            due(1, made + "room()", x.room(), pair[1]);
            due(1, made + "cost()", x.cost(), 0);
            due(1, made + "content()", x.content(), 0);
            due(1, made + "costOf(0)", x.costOf(0), 0);
            due(1, made + "costOf(1)", x.costOf(1), RowLegaliser.BAD_CELL);
            due(1, made + "drop()", x.drop(), RowLegaliser.NONE);
            x.append(1, 60, 1);
            due(1, made + "leftmost(0) of one cell that wishes 60", x.leftmost(0), pair[1] - 1);
        }
    }

    private static void append() {
        RowLegaliser x = new RowLegaliser(60);
        due(2, "append(1, 0, 1)", x.append(1, 0, 1), 0);
        due(2, "append(5, 60, 5)", x.append(5, 60, 5), 1);
        due(2, "append(3, 30, 3)", x.append(3, 30, 3), 2);
        due(2, "room() after widths 1, 5, 3", x.room(), 51);
        due(2, "move(1, 0) finds the wish", x.move(1, 0), 60);
        due(2, "move(2, 0) finds the wish", x.move(2, 0), 30);
        due(2, "reweigh(1, 1) finds the weight", x.reweigh(1, 1), 5);
        due(2, "reweigh(2, 1) finds the weight", x.reweigh(2, 1), 3);
        RowLegaliser wide = row(10, cell(5, 0, 1), cell(5, 5, 1));
        due(2, "append of a cell beyond the row's room", wide.append(5, 0, 1), 2);
        due(2, "room() when cells are wider than the row", wide.room(), -5);
    }

    private static void appendRefuses() {
        RowLegaliser x = row(20, cell(2, 4, 3));
        int[] badWidths = {0, 6, -1};
        int[] badWishes = {-1, 61};
        int[] badWeights = {0, 6, -1};
        for (int bad : badWidths) {
            due(2, "append(" + bad + ", 3, 3)", x.append(bad, 3, 3), RowLegaliser.BAD_WIDTH);
        }
        for (int bad : badWishes) {
            due(2, "append(3, " + bad + ", 3)", x.append(3, bad, 3), RowLegaliser.BAD_WISH);
        }
        for (int bad : badWeights) {
            due(2, "append(3, 3, " + bad + ")", x.append(3, 3, bad), RowLegaliser.BAD_WEIGHT);
        }
        for (int bad : FAR) {
            due(2, "append(" + bad + ", 3, 3)", x.append(bad, 3, 3), RowLegaliser.BAD_WIDTH);
            due(2, "append(3, " + bad + ", 3)", x.append(3, bad, 3), RowLegaliser.BAD_WISH);
            due(2, "append(3, 3, " + bad + ")", x.append(3, 3, bad), RowLegaliser.BAD_WEIGHT);
        }
        due(2, "room() after refusals", x.room(), 18);
        due(2, "append(1, 0, 1) after refusals", x.append(1, 0, 1), 1);
    }

    private static void appendFull() {
        RowLegaliser x = new RowLegaliser(60);
        for (int i = 0; i < 10; i++) {
            due(2, "append no. " + i, x.append(1, i, 1), i);
        }
        due(2, "append of the eleventh", x.append(2, 20, 2), RowLegaliser.FULL);
        due(2, "room() after FULL", x.room(), 50);
        due(2, "cost() after FULL", x.cost(), 0);
        due(2, "move(9, 9) after FULL", x.move(9, 9), 9);
        due(2, "drop() after FULL", x.drop(), 9);
        due(2, "append where one was dropped", x.append(2, 20, 2), 9);
        due(2, "move(9, 21) sees the new cell", x.move(9, 21), 20);
    }

    private static void move() {
        RowLegaliser x = row(20, cell(2, 4, 3), cell(3, 10, 2));
        due(3, "move(0, 0)", x.move(0, 0), 4);
        due(3, "move(0, 60)", x.move(0, 60), 0);
        due(3, "move(0, 5)", x.move(0, 5), 60);
        due(3, "move(1, 12)", x.move(1, 12), 10);
        due(3, "leftmost(0) after the moves", x.leftmost(0), 5);
        due(3, "leftmost(1) after the moves", x.leftmost(1), 12);
        int[] badCells = {-1, 2, 3, 10};
        for (int bad : badCells) {
            due(3, "move(" + bad + ", 5)", x.move(bad, 5), RowLegaliser.BAD_CELL);
        }
        due(3, "move(0, -1)", x.move(0, -1), RowLegaliser.BAD_WISH);
        due(3, "move(0, 61)", x.move(0, 61), RowLegaliser.BAD_WISH);
        for (int bad : FAR) {
            due(3, "move(" + bad + ", 5)", x.move(bad, 5), RowLegaliser.BAD_CELL);
            due(3, "move(0, " + bad + ")", x.move(0, bad), RowLegaliser.BAD_WISH);
        }
        due(3, "move(0, 5) after refusals", x.move(0, 5), 5);
        due(3, "move(1, 12) after refusals", x.move(1, 12), 12);
        x.drop();
        due(3, "move of a dropped cell", x.move(1, 12), RowLegaliser.BAD_CELL);
    }

    private static void reweigh() {
        RowLegaliser x = row(20, cell(2, 4, 3), cell(3, 4, 2));
        due(4, "cost() before", x.cost(), 4);
        due(4, "reweigh(0, 1)", x.reweigh(0, 1), 3);
        due(4, "cost() after", x.cost(), 2);
        due(4, "reweigh(0, 5)", x.reweigh(0, 5), 1);
        due(4, "reweigh(1, 4)", x.reweigh(1, 4), 2);
        due(4, "cost() with 5 and 4", x.cost(), 8);
        int[] badCells = {-1, 2, 3, 10};
        for (int bad : badCells) {
            due(4, "reweigh(" + bad + ", 3)", x.reweigh(bad, 3), RowLegaliser.BAD_CELL);
        }
        due(4, "reweigh(1, 0)", x.reweigh(1, 0), RowLegaliser.BAD_WEIGHT);
        due(4, "reweigh(1, 6)", x.reweigh(1, 6), RowLegaliser.BAD_WEIGHT);
        for (int bad : FAR) {
            due(4, "reweigh(" + bad + ", 3)", x.reweigh(bad, 3), RowLegaliser.BAD_CELL);
            due(4, "reweigh(1, " + bad + ")", x.reweigh(1, bad), RowLegaliser.BAD_WEIGHT);
        }
        due(4, "reweigh(0, 5) after refusals", x.reweigh(0, 5), 5);
        due(4, "reweigh(1, 4) after refusals", x.reweigh(1, 4), 4);
        x.drop();
        due(4, "reweigh of a dropped cell", x.reweigh(1, 4), RowLegaliser.BAD_CELL);
    }

    private static void exchange() {
        RowLegaliser x = row(20, cell(2, 4, 3), cell(5, 10, 1), cell(1, 18, 5));
        due(5, "exchange(0)", x.exchange(0), 0);
        due(5, "move(0, 10) finds the other wish", x.move(0, 10), 10);
        due(5, "move(1, 4) finds the other wish", x.move(1, 4), 4);
        due(5, "reweigh(0, 1) finds the other weight", x.reweigh(0, 1), 1);
        due(5, "reweigh(1, 3) finds the other weight", x.reweigh(1, 3), 3);
        // The wide and light cell gives way: to 0 (10 away), and the other goes to 5 (1 away).
        due(5, "cost() finds the other width", x.cost(), 13);
        due(5, "exchange(1)", x.exchange(1), 0);
        due(5, "move(2, 4) finds the other wish", x.move(2, 4), 4);
        due(5, "drop()", x.drop(), 2);
        due(5, "room() once the last, 2 wide, is out", x.room(), 14);
        due(5, "exchange(1) of the last", x.exchange(1), RowLegaliser.BAD_CELL);
        due(5, "exchange(2)", x.exchange(2), RowLegaliser.BAD_CELL);
        due(5, "exchange(-1)", x.exchange(-1), RowLegaliser.BAD_CELL);
        for (int bad : FAR) {
            due(5, "exchange(" + bad + ")", x.exchange(bad), RowLegaliser.BAD_CELL);
        }
        due(5, "move(0, 10) after refusals", x.move(0, 10), 10);
        due(5, "move(1, 18) after refusals", x.move(1, 18), 18);
        due(5, "exchange(0) of one cell", row(20, cell(1, 1, 1)).exchange(0), RowLegaliser.BAD_CELL);
        due(5, "exchange(0) of none", row(20).exchange(0), RowLegaliser.BAD_CELL);
        due(5, "exchange(-1) of none", row(20).exchange(-1), RowLegaliser.BAD_CELL);
        RowLegaliser full = new RowLegaliser(60);
        for (int i = 0; i < 10; i++) {
            full.append(1, i, 1);
        }
        due(5, "exchange(8) of ten", full.exchange(8), 0);
        due(5, "exchange(9) of ten", full.exchange(9), RowLegaliser.BAD_CELL);
        due(5, "move(9, 8) of ten", full.move(9, 8), 8);
    }

    private static void drop() {
        RowLegaliser x = row(10, cell(5, 0, 1), cell(5, 5, 1), cell(5, 7, 1));
        due(6, "cost() with three", x.cost(), RowLegaliser.NONE);
        due(6, "drop() of three", x.drop(), 2);
        due(6, "cost() with two", x.cost(), 0);
        due(6, "drop() of two", x.drop(), 1);
        due(6, "room() with one", x.room(), 5);
        due(6, "move(0, 0) finds the first", x.move(0, 0), 0);
        due(6, "drop() of one", x.drop(), 0);
        due(6, "drop() of none", x.drop(), RowLegaliser.NONE);
        due(6, "drop() of none again", x.drop(), RowLegaliser.NONE);
        due(6, "room() with none", x.room(), 10);
        due(6, "append after all are out", x.append(2, 2, 2), 0);
    }

    private static void cost() {
        due(7, "cost() without cells", row(30).cost(), 0);
        due(7, "cost() of one at its wish", row(30, cell(5, 25, 5)).cost(), 0);
        due(7, "cost() of one whose wish is 1 too far right", row(30, cell(5, 26, 5)).cost(), 5);
        due(7, "cost() of one whose wish is outside", row(10, cell(5, 60, 5)).cost(), 275);
        due(7, "cost() of two that touch", row(30, cell(5, 5, 5), cell(2, 10, 5)).cost(), 0);
        due(7, "cost() of two that overlap by 1", row(30, cell(5, 5, 4), cell(2, 9, 3)).cost(), 3);
        due(7, "cost() of two in the wrong order", row(30, cell(2, 20, 1), cell(2, 4, 2)).cost(), 18);
        due(7, "cost() of a row quite full", row(10, cell(5, 3, 2), cell(5, 3, 3)).cost(), 12);
        due(7, "cost() of a row 1 too full", row(10, cell(5, 0, 1), cell(5, 5, 1), cell(1, 9, 1)).cost(),
            RowLegaliser.NONE);
        // Three cells of 4 that all wish 10: the middle one stands, the others are 4 away.
        due(7, "cost() of three at one wish", row(30, cell(4, 10, 1), cell(4, 10, 1), cell(4, 10, 1)).cost(), 8);
        RowLegaliser dear = new RowLegaliser(10);
        for (int i = 0; i < 10; i++) {
            dear.append(1, 60, 5);
        }
        due(7, "cost() of ten far from their wishes", dear.cost(), 5 * (600 - 45));
    }

    private static void costOf() {
        RowLegaliser x = row(10, cell(5, 3, 2), cell(4, 3, 3), cell(2, 9, 1));
        due(8, "costOf(0)", x.costOf(0), 0);
        due(8, "costOf(1)", x.costOf(1), 0);
        due(8, "costOf(2)", x.costOf(2), 12);
        due(8, "costOf(3)", x.costOf(3), RowLegaliser.NONE);
        due(8, "costOf(4)", x.costOf(4), RowLegaliser.BAD_CELL);
        due(8, "costOf(-1)", x.costOf(-1), RowLegaliser.BAD_CELL);
        for (int bad : FAR) {
            due(8, "costOf(" + bad + ")", x.costOf(bad), RowLegaliser.BAD_CELL);
        }
        x.drop();
        due(8, "costOf(3) after drop", x.costOf(3), RowLegaliser.BAD_CELL);
        due(8, "costOf(2) after drop", x.costOf(2), 12);
        due(8, "costOf(0) without cells", row(10).costOf(0), 0);
        // The whole row is there for the first cell, though the second needs a part of it.
        RowLegaliser right = row(10, cell(2, 8, 1), cell(2, 8, 1));
        due(8, "costOf(1) at the row's end", right.costOf(1), 0);
        due(8, "costOf(2) at the row's end", right.costOf(2), 2);
        RowLegaliser full = new RowLegaliser(60);
        for (int i = 0; i < 10; i++) {
            full.append(1, 5, 1);
        }
        due(8, "costOf(10)", full.costOf(10), full.cost());
        due(8, "costOf(11)", full.costOf(11), RowLegaliser.BAD_CELL);
    }

    private static void leftmost() {
        // Equal weights that overlap by 3: any split of the 3 costs the same.
        RowLegaliser tie = row(30, cell(5, 10, 1), cell(5, 12, 1));
        due(9, "leftmost(1) of a tie", tie.leftmost(1), 12);
        due(9, "leftmost(0) of a tie", tie.leftmost(0), 7);
        RowLegaliser heavy = row(30, cell(5, 10, 2), cell(5, 12, 1));
        due(9, "leftmost(0) when the first is heavier", heavy.leftmost(0), 10);
        due(9, "leftmost(1) when the first is heavier", heavy.leftmost(1), 15);
        // The last is as far left as can be first, only then the one before it.
        RowLegaliser three = row(30, cell(2, 10, 2), cell(2, 10, 1), cell(2, 10, 1));
        due(9, "leftmost(2) of three", three.leftmost(2), 12);
        due(9, "leftmost(1) of three", three.leftmost(1), 10);
        due(9, "leftmost(0) of three", three.leftmost(0), 8);
        RowLegaliser left = row(10, cell(3, 0, 1), cell(3, 0, 5));
        due(9, "leftmost(0) at the row's start", left.leftmost(0), 0);
        due(9, "leftmost(1) at the row's start", left.leftmost(1), 3);
        due(9, "leftmost(0) of one that wishes 1", row(10, cell(3, 1, 1)).leftmost(0), 1);
        RowLegaliser right = row(10, cell(3, 60, 5), cell(3, 60, 1));
        due(9, "leftmost(0) at the row's end", right.leftmost(0), 4);
        due(9, "leftmost(1) at the row's end", right.leftmost(1), 7);
        int[] badCells = {-1, 2, 10};
        for (int bad : badCells) {
            due(9, "leftmost(" + bad + ")", right.leftmost(bad), RowLegaliser.BAD_CELL);
        }
        for (int bad : FAR) {
            due(9, "leftmost(" + bad + ")", right.leftmost(bad), RowLegaliser.BAD_CELL);
        }
        due(9, "leftmost(0) without cells", row(10).leftmost(0), RowLegaliser.BAD_CELL);
        RowLegaliser wide = row(10, cell(5, 0, 1), cell(5, 5, 1), cell(1, 9, 1));
        for (int i = 0; i < 3; i++) {
            due(9, "leftmost(" + i + ") of too much", wide.leftmost(i), RowLegaliser.NONE);
        }
        due(9, "leftmost(3) of too much", wide.leftmost(3), RowLegaliser.BAD_CELL);
    }

    private static void costAt() {
        RowLegaliser x = row(20, cell(4, 5, 2), cell(3, 9, 3));
        due(10, "costAt(0, 5)", x.costAt(0, 5), 0);
        due(10, "costAt(0, 3)", x.costAt(0, 3), 4);
        due(10, "costAt(0, 7) pushes the next", x.costAt(0, 7), 10);
        due(10, "costAt(1, 6) pushes the one before", x.costAt(1, 6), 15);
        due(10, "costAt(0, 0)", x.costAt(0, 0), 10);
        due(10, "costAt(0, 13), the last place for it", x.costAt(0, 13), 40);
        due(10, "costAt(0, 14)", x.costAt(0, 14), RowLegaliser.NONE);
        due(10, "costAt(0, 16)", x.costAt(0, 16), RowLegaliser.NONE);
        due(10, "costAt(1, 4), the first place for it", x.costAt(1, 4), 25);
        due(10, "costAt(1, 3)", x.costAt(1, 3), RowLegaliser.NONE);
        due(10, "costAt(1, 17)", x.costAt(1, 17), 24);
        due(10, "costAt(1, 18)", x.costAt(1, 18), RowLegaliser.NONE);
        for (int i = 0; i < 2; i++) {
            due(10, "costAt(" + i + ", -1)", x.costAt(i, -1), RowLegaliser.NONE);
            due(10, "costAt(" + i + ", 20)", x.costAt(i, 20), RowLegaliser.NONE);
            due(10, "costAt(" + i + ", 60)", x.costAt(i, 60), RowLegaliser.NONE);
            due(10, "costAt(" + i + ", 61)", x.costAt(i, 61), RowLegaliser.NONE);
            for (int far : FAR) {
                due(10, "costAt(" + i + ", " + far + ")", x.costAt(i, far), RowLegaliser.NONE);
            }
        }
        due(10, "costAt(-1, 5)", x.costAt(-1, 5), RowLegaliser.BAD_CELL);
        due(10, "costAt(2, 5)", x.costAt(2, 5), RowLegaliser.BAD_CELL);
        for (int bad : FAR) {
            due(10, "costAt(" + bad + ", 5)", x.costAt(bad, 5), RowLegaliser.BAD_CELL);
        }
        due(10, "costAt(0, 0) without cells", row(20).costAt(0, 0), RowLegaliser.BAD_CELL);
        due(10, "costAt(0, 59) at the end of the longest row", row(60, cell(1, 60, 5)).costAt(0, 59), 5);
        due(10, "costAt(0, 60) past the end of the longest row", row(60, cell(1, 60, 5)).costAt(0, 60),
            RowLegaliser.NONE);
        RowLegaliser wide = row(10, cell(5, 0, 1), cell(5, 5, 1), cell(1, 9, 1));
        due(10, "costAt(0, 0) of too much", wide.costAt(0, 0), RowLegaliser.NONE);
    }

    private static void room() {
        due(11, "room() without cells", row(25).room(), 25);
        due(11, "room() of two", row(25, cell(5, 0, 1), cell(2, 0, 1)).room(), 18);
        due(11, "room() quite full", row(10, cell(5, 0, 1), cell(5, 0, 1)).room(), 0);
        RowLegaliser x = new RowLegaliser(10);
        for (int i = 0; i < 10; i++) {
            x.append(5, 0, 1);
        }
        due(11, "room() of ten wide cells in the shortest row", x.room(), -40);
    }

    private static void content() {
        due(12, "content() without cells", row(30).content(), 0);
        due(12, "content() of one", row(30, cell(5, 25, 1)).content(), 1);
        due(12, "content() of one that would stick out", row(30, cell(5, 26, 1)).content(), 0);
        due(12, "content() of one that wishes outside", row(30, cell(1, 30, 1)).content(), 0);
        due(12, "content() of two that touch", row(30, cell(3, 2, 1), cell(3, 5, 1)).content(), 2);
        due(12, "content() of two that overlap by 1", row(30, cell(3, 2, 1), cell(3, 4, 1)).content(), 1);
        due(12, "content() of two in the wrong order", row(30, cell(3, 20, 1), cell(3, 2, 1)).content(), 1);
        // The first cell taken greedily would shut out the three behind it.
        due(12, "content() must skip the first",
            row(30, cell(1, 25, 5), cell(2, 1, 1), cell(2, 3, 1), cell(2, 5, 1)).content(), 3);
        due(12, "content() must skip one in the middle",
            row(30, cell(2, 1, 1), cell(2, 20, 1), cell(2, 3, 1), cell(2, 5, 1)).content(), 3);
        // The last cell has a long chain and then a short one before it, and must join the long one.
        due(12, "content() must not join the nearest",
            row(30, cell(2, 5, 1), cell(2, 7, 1), cell(2, 3, 1), cell(2, 9, 1)).content(), 3);
        due(12, "content() with the last outside",
            row(10, cell(2, 1, 1), cell(2, 3, 1), cell(2, 9, 1)).content(), 2);
        // What is left out takes no room, so more cells than fit are no hindrance.
        due(12, "content() of too much",
            row(10, cell(5, 0, 1), cell(5, 1, 1), cell(5, 5, 1)).content(), 2);
        RowLegaliser x = new RowLegaliser(50);
        for (int i = 0; i < 10; i++) {
            x.append(5, 5 * i, 1);
        }
        due(12, "content() of ten", x.content(), 10);
        x.drop();
        due(12, "content() after drop", x.content(), 9);
    }

    private static void orderOfRefusals() {
        RowLegaliser x = new RowLegaliser(10);
        due(13, "append(0, 61, 0)", x.append(0, 61, 0), RowLegaliser.BAD_WIDTH);
        due(13, "append(0, 5, 0)", x.append(0, 5, 0), RowLegaliser.BAD_WIDTH);
        due(13, "append(0, 61, 1)", x.append(0, 61, 1), RowLegaliser.BAD_WIDTH);
        due(13, "append(1, 61, 0)", x.append(1, 61, 0), RowLegaliser.BAD_WISH);
        for (int i = 0; i < 10; i++) {
            x.append(5, 5, 5);
        }
        due(13, "full: append(6, 0, 1)", x.append(6, 0, 1), RowLegaliser.BAD_WIDTH);
        due(13, "full: append(1, -1, 1)", x.append(1, -1, 1), RowLegaliser.BAD_WISH);
        due(13, "full: append(1, 0, 6)", x.append(1, 0, 6), RowLegaliser.BAD_WEIGHT);
        due(13, "full: append(1, 0, 1)", x.append(1, 0, 1), RowLegaliser.FULL);
        due(13, "move(10, 61)", x.move(10, 61), RowLegaliser.BAD_CELL);
        due(13, "reweigh(10, 6)", x.reweigh(10, 6), RowLegaliser.BAD_CELL);
        due(13, "costOf(11) of too much", x.costOf(11), RowLegaliser.BAD_CELL);
        due(13, "leftmost(10) of too much", x.leftmost(10), RowLegaliser.BAD_CELL);
        due(13, "costAt(10, -1) of too much", x.costAt(10, -1), RowLegaliser.BAD_CELL);
        due(13, "costAt(-1, 61) of too much", x.costAt(-1, 61), RowLegaliser.BAD_CELL);
    }

    private static void readingChangesNothing() {
        RowLegaliser x = row(12, cell(4, 5, 2), cell(3, 5, 3), cell(2, 1, 1));
        int[] first = readings(x);
        int[] second = readings(x);
        for (int i = 0; i < first.length; i++) {
            due(13, "reading no. " + i + " a second time", second[i], first[i]);
        }
        // Each of the readings uses the same inner table: another one between must not be felt.
        x.costAt(0, 0);
        due(13, "leftmost(2) after costAt", x.leftmost(2), first[7]);
        x.costOf(1);
        due(13, "cost() after costOf", x.cost(), first[0]);
    }

    private static int[] readings(RowLegaliser x) {
        return new int[] {
            x.cost(), x.costOf(1), x.costOf(2), x.room(), x.content(),
            x.leftmost(0), x.leftmost(1), x.leftmost(2), x.costAt(1, 6), x.costAt(0, 9), x.costOf(9),
        };
    }

    private static void objectsAreApart() {
        RowLegaliser one = row(10, cell(2, 3, 1));
        RowLegaliser other = row(60, cell(5, 9, 4), cell(5, 9, 4));
        due(1, "room() of one beside another", one.room(), 8);
        due(1, "cost() of one beside another", one.cost(), 0);
        due(1, "cost() of the other", other.cost(), 20);
        due(1, "move(0, 3) of one beside another", one.move(0, 3), 3);
    }
}
