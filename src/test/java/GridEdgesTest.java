/** The edges that the document names of the grid and of toppling (Terms 1, promises 1 to 8, 12 to 14), a method a sentence. */
public final class GridEdgesTest {
    private static final Check CHECK = new Check("GridEdgesTest");
    private static final int NONE = SandGroup.NONE, BAD = SandGroup.BAD, STATE = SandGroup.STATE, FULL = SandGroup.FULL,
        NOT = SandGroup.NOT;
    private static final int[] FAR = {Integer.MIN_VALUE, Integer.MIN_VALUE + 1, -1000, 1000000, Integer.MAX_VALUE};

    public static void main(String[] args) {
        oneToFourRowsAndColumns();
        cellsAreRowByRow();
        allArePlacesAtFirst();
        heightsFrom0To999();
        nextsEndAtTheSides();
        nextsAsFarAsPlaces();
        nextsInTheirOrder();
        fourOrMoreMayTopple();
        allElseIsLost();
        above999BehindTopple();
        above999OnTheWay();
        stableAtThreeOrLess();
        sameByAnyOrder();
        leastOfThoseThatMay();
        queueTakesTheFirst();
        stackTakesTheLast();
        tallestOfSeveralTheLeast();
        roundsAsTheyBegan();
        sizeAnew();
        wallOfHeight0();
        wallAsItWas();
        setTellsWhatItWas();
        dropFrom1To99();
        dropToTheTop();
        settleTellsSize();
        settledNames();
        traceEnds();
        commonOfTheFirst60();
        commonWhereNoneMay();
        CHECK.end();
    }

    /** "A GRID has 1 .. 4 rows and columns (3 and 3 at first)" */
    private static void oneToFourRowsAndColumns() {
        CHECK.due("cells at first", new SandGroup().count(0), 9);
        CHECK.due("columns at first", new SandGroup().count(1), 3);
        for (int r = -1; r <= 6; r++) {
            for (int c = -1; c <= 6; c++) {
                sized(r, c, r >= 1 && r <= 4 && c >= 1 && c <= 4);
            }
        }
        for (int far : FAR) {
            sized(far, 2, false);
            sized(2, far, false);
        }
    }

    private static void sized(int r, int c, boolean may) {
        SandGroup x = new SandGroup();
        String call = "size(" + r + ", " + c + ") ";
        CHECK.due(call, x.size(r, c), may ? 9 : BAD);
        CHECK.due(call + "cells", x.count(0), may ? r * c : 9);
        CHECK.due(call + "columns", x.count(1), may ? c : 3);
    }

    /** "CELLS 0, 1, .. row by row" */
    private static void cellsAreRowByRow() {
        for (String text : new String[] {"1", "1234", "1/2/3/4", "123/456", "12/34/56", "1234/5678/9012/3456"}) {
            SandGroup x = Sand.of(text);
            String cells = text.replace("/", "");
            for (int cell = 0; cell < cells.length(); cell++) {
                CHECK.due(text + " height(" + cell + ")", x.height(cell), cells.charAt(cell) - '0');
            }
            CHECK.due(text + " ahead of the first", x.height(-1), NONE);
            CHECK.due(text + " behind the last", x.height(cells.length()), NONE);
            for (int far : FAR) {
                CHECK.due(text + " far off", x.height(far), NONE);
            }
        }
    }

    /** "A CELL is a WALL or a PLACE (at first all are PLACES)" */
    private static void allArePlacesAtFirst() {
        SandGroup x = new SandGroup();
        CHECK.due("places", x.count(2), 9);
        for (int cell = 0; cell < 9; cell++) {
            CHECK.due("a place", x.wall(cell, false), 0);
            x.wall(cell, true);
            CHECK.due("places", x.count(2), 8 - cell);
            CHECK.due("cells", x.count(0), 9);
        }
    }

    /** "HEIGHT of a PLACE: 0 .. 999 (0 at first)" */
    private static void heightsFrom0To999() {
        SandGroup x = new SandGroup();
        for (int cell = 0; cell < 9; cell++) {
            CHECK.due("at first", x.height(cell), 0);
        }
        CHECK.due("999", x.set(8, 999), 0);
        CHECK.due("1000", x.set(8, 1000), BAD);
        CHECK.due("999 it stays", x.height(8), 999);
        CHECK.due("0", x.set(8, 0), 999);
        CHECK.due("-1", x.set(8, -1), BAD);
        CHECK.due("0 it stays", x.height(8), 0);
        for (int far : FAR) {
            CHECK.due("set(8, " + far + ")", x.set(8, far), BAD);
        }
    }

    /** "NEXT to a CELL are those above, left of it, right of it, below": none across the ends of rows and columns */
    private static void nextsEndAtTheSides() {
        for (int rows = 1; rows <= 4; rows++) {
            for (int columns = 1; columns <= 4; columns++) {
                for (int cell = 0; cell < rows * columns; cell++) {
                    spilt(rows, columns, cell);
                }
            }
        }
    }

    private static void spilt(int rows, int columns, int cell) {
        SandGroup x = new SandGroup();
        x.size(rows, columns);
        x.set(cell, 4);
        int lost = x.topple(cell);
        for (int other = 0; other < rows * columns; other++) {
            int far = Math.abs(cell / columns - other / columns) + Math.abs(cell % columns - other % columns);
            CHECK.due(rows + " by " + columns + ": of " + cell + " to " + other, x.height(other), far == 1 ? 1 : 0);
            lost += far == 1 ? 1 : 0;
        }
        CHECK.due(rows + " by " + columns + ": all of " + cell, lost, 4);
    }

    /** "as far as they are PLACES": each set of walls about the middle */
    private static void nextsAsFarAsPlaces() {
        int[] sides = {1, 3, 5, 7};
        for (int set = 0; set < 16; set++) {
            SandGroup x = Sand.of("000/040/000");
            for (int side = 0; side < 4; side++) {
                x.wall(sides[side], (set >> side & 1) != 0);
            }
            CHECK.due("walls " + set, x.topple(4), Integer.bitCount(set));
            for (int side = 0; side < 4; side++) {
                CHECK.due("walls " + set + " side " + side, x.height(sides[side]), (set >> side & 1) != 0 ? NONE : 1);
            }
        }
    }

    /** "(in this order)": above, left, right, below; "and then itself" */
    private static void nextsInTheirOrder() {
        SandGroup x = Sand.of("030/383/030");
        int[] queue = {4, 1, 3, 5, 7, 4};
        int[] stack = {4, 4, 7, 5, 3, 1};
        for (int i = 0; i < 6; i++) {
            CHECK.due("QUEUE", x.trace(1, i), queue[i]);
            CHECK.due("STACK", x.trace(2, i), stack[i]);
        }
    }

    /** "A PLACE of HEIGHT 4 or more may TOPPLE: its HEIGHT is 4 less" */
    private static void fourOrMoreMayTopple() {
        int[] heights = {0, 1, 2, 3, 4, 5, 7, 8, 998, 999};
        for (int height : heights) {
            SandGroup x = Sand.of(1, 1, height);
            CHECK.due("topple of " + height, x.topple(0), height > 3 ? 4 : NOT);
            CHECK.due("then", x.height(0), height > 3 ? height - 4 : height);
            CHECK.due("a change", x.count(7), height > 3 ? 2 : 1);
        }
    }

    /** "all else of the 4 is LOST": none in the middle, 1 at a side, 2 at a corner, all of it alone */
    private static void allElseIsLost() {
        CHECK.due("the middle", Sand.of("000/040/000").topple(4), 0);
        CHECK.due("a side", Sand.of("040/000/000").topple(1), 1);
        CHECK.due("a corner", Sand.of("400/000/000").topple(0), 2);
        CHECK.due("the end of a row", Sand.of("004").topple(2), 3);
        CHECK.due("alone", Sand.of("4").topple(0), 4);
        CHECK.due("alone among walls", Sand.of("###/#4#/###").topple(4), 4);
    }

    /** "(HEIGHTS above 999 may be .. truly behind topple().)" */
    private static void above999BehindTopple() {
        SandGroup x = Sand.of(1, 2, 999, 999);
        for (int k = 1; k <= 249; k++) {
            CHECK.due("topple", x.topple(0), 3);
        }
        CHECK.due("what is left", x.height(0), 3);
        CHECK.due("above", x.height(1), 999 + 249);
        CHECK.due("grains", x.count(3), 3 + 999 + 249);
        CHECK.due("a grain more", x.drop(1, 1), FULL);
        CHECK.due("many more", x.drop(1, 99), FULL);
        CHECK.due("none are left or lost but these", x.settled(1) + x.settled(4), 3 + 999 + 249);
        int size = x.settled(0);
        for (int order = 0; order < 4; order++) {
            CHECK.holds("as often by order " + order, x.trace(order, size - 1) >= 0);
            CHECK.due("no more by order " + order, x.trace(order, size), NOT);
        }
        x.film(0);
        CHECK.due("it steadies", x.steadies(0), NOT);
        CHECK.due("set tells it", x.set(1, 999), 999 + 249);
        CHECK.due("undo", x.undo(), 7);
        CHECK.due("above again", x.height(1), 999 + 249);
        CHECK.due("it topples", x.topple(1), 3);
        CHECK.due("4 less", x.height(1), 999 + 245);
    }

    /** "(HEIGHTS above 999 may be on the way ..)": LEAST first takes all off the one, to 3 and 1248 */
    private static void above999OnTheWay() {
        SandGroup x = Sand.of(1, 2, 999, 999);
        int[] places = {0, 248, 249, 250, 251, 252, 253, 254, 255};
        int[] cells = {0, 0, 1, 0, 1, 1, 1, 1, 0};
        for (int i = 0; i < places.length; i++) {
            CHECK.due("trace(0, " + places[i] + ")", x.trace(0, places[i]), cells[i]);
        }
        CHECK.due("what is left", x.settled(4), x.settled(200) + x.settled(201));
        CHECK.due("none are left or lost but these", x.settled(1) + x.settled(4), 1998);
    }

    /** "STABLE: all HEIGHTS are 3 or less" */
    private static void stableAtThreeOrLess() {
        for (int cell = 0; cell < 9; cell++) {
            SandGroup x = Sand.of("333/333/333");
            CHECK.due("stable", x.avalanche(cell, 3) > 0 ? 1 : 0, 1);
            CHECK.due("rounds", x.settled(2), 0);
            x.set(cell, 4);
            CHECK.due("4 at " + cell, x.avalanche(0, 0), STATE);
            CHECK.due("4 at " + cell, x.avalanche(8, 0), STATE);
            CHECK.holds("4 is settled", x.settled(2) > 0);
        }
    }

    /** "(it comes to the same by any order, and so does how often each TOPPLES ..)" */
    private static void sameByAnyOrder() {
        for (String text : new String[] {"9", "999", "9#9/999", "979/898/999", "9009/0990/0##0/9999"}) {
            SandGroup y = Sand.of(text);
            for (int order = 0; order < 4; order++) {
                SandGroup x = Sand.of(text);
                int[] counts = new int[16];
                int size = x.settled(0);
                for (int i = 0; i < size; i++) {
                    int cell = x.trace(order, 0);
                    x.topple(cell);
                    counts[cell]++;
                }
                CHECK.due(text + " by " + order + " it is stable then", x.settled(0), 0);
                for (int cell = 0; cell < y.count(0); cell++) {
                    CHECK.due(text + " by " + order + " HEIGHT", x.height(cell), y.settled(200 + cell));
                    CHECK.due(text + " by " + order + " COUNT", counts[cell], Math.max(0, y.settled(100 + cell)));
                }
            }
        }
    }

    /** "0 LEAST: of those that may, that of the least number TOPPLES" */
    private static void leastOfThoseThatMay() {
        // 3 4 9 -> 4 0 10 -> 0 1 10 -> 0 2 6 -> 0 3 2
        Sand.traced(CHECK, "LEAST", Sand.of("349"), 0, 1, 0, 2, 2);
        Sand.traced(CHECK, "LEAST, stable", Sand.of("333"), 0);
    }

    /** "1 QUEUE: .. the first leaves it and TOPPLES, .. each that may and doesn't stand in the row comes behind" */
    private static void queueTakesTheFirst() {
        // row 0 2; 0 -> 0 4 8, row 2 1; 2 -> 0 5 4, 1 stands there already, row 1 2; 1 -> 1 1 5; 2 -> 1 2 1
        Sand.traced(CHECK, "QUEUE", Sand.of("438"), 1, 0, 2, 1, 2);
        // row 1; 1 -> 4 4: those next come ahead of itself, row 0 1
        Sand.traced(CHECK, "QUEUE", Sand.of("38"), 1, 1, 0, 1);
        // row 0 1 2; 0 -> 0 5 8; 1 -> 1 1 9: each stands there already, row 2; 2 -> 1 2 5; 2 -> 1 3 1
        Sand.traced(CHECK, "QUEUE", Sand.of("448"), 1, 0, 1, 2, 2);
        Sand.traced(CHECK, "QUEUE, stable", Sand.of("333"), 1);
    }

    /** "2 STACK: as QUEUE, but it is the last that leaves it" */
    private static void stackTakesTheLast() {
        // row 0 1; 1 -> 5 0; 0 -> 1 1
        Sand.traced(CHECK, "STACK", Sand.of("44"), 2, 1, 0);
        // row 1; 1 -> 4 4, row 0 1; 1 -> 5 0; 0 -> 1 1
        Sand.traced(CHECK, "STACK", Sand.of("38"), 2, 1, 1, 0);
        // row 0 2; 2 -> 4 4 0, row 0 1; 1 -> 5 0 1, 0 stands there already; 0 -> 1 1 1
        Sand.traced(CHECK, "STACK", Sand.of("434"), 2, 2, 1, 0);
        Sand.traced(CHECK, "STACK, stable", Sand.of("333"), 2);
    }

    /** "3 TALLEST: of those that may, that of the greatest HEIGHT, of several the least number" */
    private static void tallestOfSeveralTheLeast() {
        // 5 5 -> 1 6 -> 2 2
        Sand.traced(CHECK, "TALLEST", Sand.of("55"), 3, 0, 1);
        // 4 5 -> 5 1 -> 1 2
        Sand.traced(CHECK, "TALLEST", Sand.of("45"), 3, 1, 0);
        // 4 0 0 4: neither feeds the other
        Sand.traced(CHECK, "TALLEST", Sand.of("4004"), 3, 0, 3);
        Sand.traced(CHECK, "TALLEST, stable", Sand.of("333"), 3);
    }

    /** "ROUNDS: in each one all that may, as it began, TOPPLE once; till none may" */
    private static void roundsAsTheyBegan() {
        CHECK.due("none may", Sand.of("333").settled(2), 0);
        CHECK.due("both at once", Sand.of("44").settled(2), 1);
        CHECK.due("4 from within the round waits", Sand.of("43").settled(2), 2);
        CHECK.due("from the least or from the greatest", Sand.of("34").settled(2), 2);
        CHECK.due("once in each", Sand.of("8").settled(2), 2);
        CHECK.due("999 alone", Sand.of(1, 1, 999).settled(2), 249);
    }

    /** "The GRID has r rows and c columns, all PLACES of HEIGHT 0: how many CELLS there were" */
    private static void sizeAnew() {
        SandGroup x = Sand.of("1#/#9");
        CHECK.due("as it was", x.size(2, 2), 4);
        CHECK.holds("all places of 0", Sand.show(x).equals("0 0/0 0"));
        CHECK.due("to the greatest", x.size(4, 4), 4);
        CHECK.due("refused", x.size(5, 4), BAD);
        CHECK.due("to the least", x.size(1, 1), 16);
        CHECK.due("from the least", x.size(4, 4), 1);
        CHECK.due("places", x.count(2), 16);
    }

    /** "A CELL is a WALL, or a PLACE (of HEIGHT 0 then; all others stay as they are): whether it was a WALL" */
    private static void wallOfHeight0() {
        for (int cell = 0; cell < 4; cell++) {
            SandGroup x = Sand.of(2, 2, 999, 998, 997, 996);
            CHECK.due("a wall now", x.wall(cell, true), 0);
            CHECK.due("no height", x.height(cell), NONE);
            CHECK.due("grains", x.count(3), 3990 - (999 - cell));
            CHECK.due("a place now", x.wall(cell, false), 1);
            for (int other = 0; other < 4; other++) {
                CHECK.due("height(" + other + ")", x.height(other), other == cell ? 0 : 999 - other);
            }
        }
        SandGroup y = Sand.of("00/00");
        CHECK.due("ahead of the first", y.wall(-1, true), NONE);
        CHECK.due("behind the last", y.wall(4, true), NONE);
        for (int far : FAR) {
            CHECK.due("far off", y.wall(far, true), NONE);
            CHECK.due("far off", y.wall(far, false), NONE);
        }
    }

    /** "(1, 0; told as it was: nothing is otherwise, its HEIGHT stays)" */
    private static void wallAsItWas() {
        SandGroup x = Sand.of("7#");
        x.keep(0);
        x.set(0, 9);
        x.undo();
        CHECK.due("a place as it was", x.wall(0, false), 0);
        CHECK.due("its height stays", x.height(0), 7);
        CHECK.due("a wall as it was", x.wall(1, true), 1);
        CHECK.due("piles stay", x.count(4), 1);
        CHECK.due("changes stay", x.count(8), 1);
    }

    /** "HEIGHT of a PLACE becomes v: what it was. NONE: it is no PLACE; BAD." */
    private static void setTellsWhatItWas() {
        SandGroup x = Sand.of("5#");
        CHECK.due("it was 5", x.set(0, 5), 5);
        CHECK.due("it was 5", x.set(0, 6), 5);
        CHECK.due("a wall", x.set(1, 5), NONE);
        CHECK.due("ahead of the first", x.set(-1, 5), NONE);
        CHECK.due("behind the last", x.set(2, 5), NONE);
        CHECK.due("6 it is", x.height(0), 6);
    }

    /** "n (1 .. 99) grains drop on a PLACE: HEIGHT then" */
    private static void dropFrom1To99() {
        SandGroup x = Sand.of("3#");
        CHECK.due("0", x.drop(0, 0), BAD);
        CHECK.due("1", x.drop(0, 1), 4);
        CHECK.due("99", x.drop(0, 99), 103);
        CHECK.due("100", x.drop(0, 100), BAD);
        CHECK.due("-1", x.drop(0, -1), BAD);
        for (int far : FAR) {
            CHECK.due("drop(0, " + far + ")", x.drop(0, far), BAD);
        }
        CHECK.due("what it is", x.height(0), 103);
        CHECK.due("a wall", x.drop(1, 1), NONE);
    }

    /** "FULL: it would be above 999" */
    private static void dropToTheTop() {
        for (int n = 1; n <= 99; n += 49) {
            SandGroup x = Sand.of(1, 1, 999 - n);
            CHECK.due("to 999", x.drop(0, n), 999);
            CHECK.due("above", x.drop(0, n), FULL);
            SandGroup y = Sand.of(1, 1, 1000 - n);
            CHECK.due("to 1000", y.drop(0, n), FULL);
            CHECK.due("it stays", y.height(0), 1000 - n);
        }
    }

    /** "HEIGHTS truly become SETTLED: SIZE": none without a place or where all are 3, and as many as there can be */
    private static void settleTellsSize() {
        CHECK.due("no place", Sand.of("##").settle(), 0);
        SandGroup x = Sand.of("33/33");
        CHECK.due("stable", x.settle(), 0);
        CHECK.holds("as it was", Sand.show(x).equals("3 3/3 3"));
        CHECK.due("4 alone", Sand.of("4").settle(), 1);
        SandGroup y = new SandGroup();
        y.size(4, 4);
        for (int cell = 0; cell < 16; cell++) {
            y.set(cell, 999);
        }
        CHECK.due("all of 999", y.settle(), 19256);
        CHECK.holds("all of 3", Sand.show(y).equals("3 3 3 3/3 3 3 3/3 3 3 3/3 3 3 3"));
        CHECK.due("settled is settled", y.settle(), 0);
    }

    /** "what 0 SIZE .. 4 grains that are left, 100 and cell .. 200 and cell ..": all others NONE */
    private static void settledNames() {
        SandGroup x = Sand.of("4#/56");
        // all three topple in one round: 4 - 4 + 1, 5 - 4 + 2, 6 - 4 + 1; 3, 2 and 3 of them are lost
        int[] named = {0, 1, 2, 3, 4, 100, 102, 103, 200, 202, 203};
        int[] due = {3, 8, 1, 13, 7, 1, 1, 1, 1, 3, 3};
        int at = 0;
        for (int what = -2; what <= 218; what++) {
            boolean is = at < named.length && named[at] == what;
            CHECK.due("settled(" + what + ")", x.settled(what), is ? due[at] : NONE);
            at += is ? 1 : 0;
        }
        for (int far : FAR) {
            CHECK.due("settled(" + far + ")", x.settled(far), NONE);
            CHECK.due("settled(100 more)", x.settled(far + 100), NONE);
            CHECK.due("settled(200 more)", x.settled(far + 200), NONE);
        }
    }

    /** "NONE: order; NOT: there are fewer (or i below 0)" */
    private static void traceEnds() {
        SandGroup x = Sand.of("44");
        for (int order = 0; order < 4; order++) {
            CHECK.due("the last but one", x.trace(order, 0), order == 2 ? 1 : 0);
            CHECK.due("the last", x.trace(order, 1), order == 2 ? 0 : 1);
            CHECK.due("behind the last", x.trace(order, 2), NOT);
            CHECK.due("below 0", x.trace(order, -1), NOT);
            CHECK.due("far off", x.trace(order, Integer.MAX_VALUE), NOT);
            CHECK.due("far below", x.trace(order, Integer.MIN_VALUE), NOT);
        }
        CHECK.due("order -1", x.trace(-1, 0), NONE);
        CHECK.due("order 4", x.trace(4, 0), NONE);
        for (int far : FAR) {
            CHECK.due("order " + far, x.trace(far, 0), NONE);
        }
        CHECK.due("no place", Sand.of("#").trace(0, 0), NOT);
    }

    /** "At how many places, of the first 60, .. (a place that one of them does not come to counts nothing)" */
    private static void commonOfTheFirst60() {
        for (int size = 0; size <= 62; size++) {
            SandGroup x = Sand.of(1, 1, 4 * size);
            CHECK.due(size + " places", x.common(0, 3), Math.min(size, 60));
            CHECK.due(size + " places with itself", x.common(2, 2), Math.min(size, 60));
        }
        SandGroup y = Sand.of("44");
        CHECK.due("0 1 and 1 0", y.common(0, 2), 0);
        for (int wrong : new int[] {-1, 4, Integer.MIN_VALUE, Integer.MAX_VALUE}) {
            CHECK.due("common(" + wrong + ", 0)", y.common(wrong, 0), NONE);
            CHECK.due("common(0, " + wrong + ")", y.common(0, wrong), NONE);
        }
        CHECK.due("no place", Sand.of("#").common(0, 1), 0);
    }

    /** The same, where 3 is left everywhere: by no ORDER does a place that may not TOPPLE do so */
    private static void commonWhereNoneMay() {
        for (String text : new String[] {"3", "333", "33/#3", "3333/3333/3333/3333"}) {
            for (int order = 0; order < 4; order++) {
                SandGroup x = Sand.of(text);
                CHECK.due(text + " by " + order, x.common(order, order), 0);
                CHECK.due(text + " by " + order, x.trace(order, 0), NOT);
                // the last place alone topples, and what topples by that
                int last = x.count(0) - 1;
                x.drop(last, 1);
                CHECK.due(text + " and a grain by " + order, x.common(order, order), x.settled(0));
                CHECK.due(text + " and a grain by " + order, x.trace(order, 0), last);
                CHECK.due(text + " and a grain by " + order, x.trace(order, x.settled(0)), NOT);
            }
        }
    }
}
