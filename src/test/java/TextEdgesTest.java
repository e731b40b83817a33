/** The edges that the document names of texts (Terms 4, promises 9 to 11), a method a sentence. */
public final class TextEdgesTest {
    private static final Check CHECK = new Check("TextEdgesTest");
    private static final int NONE = SandGroup.NONE, BAD = SandGroup.BAD, FULL = SandGroup.FULL;
    private static final int MISPLACED = 2, TOO_EARLY = 3, CELL_TOO_MANY = 4, ROW_TOO_MANY = 5;

    public static void main(String[] args) {
        bytesFrom1To127();
        fortyBytesAtMost();
        oneToFourRowsOfOneToFour();
        wallsAndFigures();
        everyByteBehindEveryBeginning();
        everyByteThereIs();
        aCellTooMany();
        aRowTooMany();
        slashesAheadOfIt();
        theFirstFaultIsTold();
        tooEarlyAtTheLength();
        fullTape();
        codesOfWhy();
        noneBehindATextThatCame();
        emptyBehindEachReading();
        aGridAnew();
        CHECK.end();
    }

    /** "A byte (1 .. 127) comes behind THE TAPE's: how many it has." */
    private static void bytesFrom1To127() {
        SandGroup x = new SandGroup();
        int[] bad = {Integer.MIN_VALUE, -128, -1, 0, 128, 129, 255, 256, Integer.MAX_VALUE};
        for (int letter : bad) {
            CHECK.due("feed(" + letter + ")", x.feed(letter), BAD);
        }
        CHECK.due("none of them is there", x.count(5), 0);
        CHECK.due("the least", x.feed(1), 1);
        CHECK.due("the greatest", x.feed(127), 2);
        for (int letter = 1; letter <= 127; letter++) {
            CHECK.due("feed(" + letter + ")", new SandGroup().feed(letter), 1);
        }
    }

    /** "THE TAPE (40 bytes at most)" */
    private static void fortyBytesAtMost() {
        SandGroup x = new SandGroup();
        for (int i = 1; i <= 40; i++) {
            CHECK.due("byte " + i, x.feed('1'), i);
        }
        for (int i = 0; i < 3; i++) {
            CHECK.due("byte 41", x.feed('1'), FULL);
            CHECK.due("forty", x.count(5), 40);
            CHECK.due("BAD is named first", x.feed(0), BAD);
            CHECK.due("BAD is named first", x.feed(128), BAD);
        }
    }

    private static String row(int cells, char cell) {
        return String.valueOf(cell).repeat(cells);
    }

    private static String rows(int rows, int columns) {
        StringBuilder text = new StringBuilder();
        for (int r = 0; r < rows; r++) {
            text.append(r > 0 ? "/" : "").append(row(columns, (char) ('1' + r)));
        }
        return text.toString();
    }

    /** "ROWS, one to four, with / between; ROW: one to four CELLS, in all ROWS as many" */
    private static void oneToFourRowsOfOneToFour() {
        for (int rows = 1; rows <= 4; rows++) {
            for (int columns = 1; columns <= 4; columns++) {
                SandGroup x = new SandGroup();
                String text = rows(rows, columns);
                CHECK.due("read " + text, Sand.readAll(x, text), rows * columns);
                CHECK.due("cells of " + text, x.count(0), rows * columns);
                CHECK.due("columns of " + text, x.count(1), columns);
                for (int cell = 0; cell < rows * columns; cell++) {
                    CHECK.due("height(" + cell + ") of " + text, x.height(cell), 1 + cell / columns);
                }
            }
        }
    }

    /** "CELL: # (a WALL) or a figure (its HEIGHT)" */
    private static void wallsAndFigures() {
        for (int figure = 0; figure <= 9; figure++) {
            CHECK.due("figure " + figure, Sand.of(String.valueOf(figure)).height(0), figure);
        }
        SandGroup x = Sand.of("#9#/0##");
        CHECK.due("places", x.count(2), 2);
        CHECK.due("grains", x.count(3), 9);
        int[] due = {NONE, 9, NONE, 0, NONE, NONE};
        for (int cell = 0; cell < 6; cell++) {
            CHECK.due("height(" + cell + ")", x.height(cell), due[cell]);
        }
    }

    private static void faulty(String text, int fault, int slashes, int cause) {
        SandGroup x = Sand.of("7#");
        CHECK.due("read " + text, Sand.readAll(x, text), -100 - fault);
        CHECK.due(text + " codes", x.count(6), 3);
        CHECK.due(text + " why(0)", x.why(0), 1);
        CHECK.due(text + " why(1)", x.why(1), 10 + slashes);
        CHECK.due(text + " why(2)", x.why(2), cause);
        CHECK.holds(text + " changes no cell", Sand.show(x).equals("7 #"));
    }

    /**
     * "FAULT: the place (from 0) of the first byte with which none goes on so": behind
     * whole ROWS and a begun one, of each number and length, a CELL, a / and another byte
     */
    private static void everyByteBehindEveryBeginning() {
        faulty("", 0, 0, TOO_EARLY);
        faulty("/", 0, 0, MISPLACED);
        faulty("a", 0, 0, MISPLACED);
        for (int whole = 0; whole < 4; whole++) {
            for (int columns = 1; columns <= 4; columns++) {
                for (int begun = whole == 0 ? 1 : 0; begun <= (whole == 0 ? 4 : columns); begun++) {
                    behind(whole, whole == 0 ? begun : columns, begun);
                }
            }
        }
    }

    private static void behind(int whole, int columns, int begun) {
        String text = (whole == 0 ? "" : rows(whole, columns) + "/") + row(begun, '#');
        int length = text.length();
        boolean isRow = whole == 0 || begun == columns;
        if (!isRow) {
            faulty(text, length, whole, TOO_EARLY);
        } else {
            CHECK.due("read " + text, Sand.readAll(new SandGroup(), text), (whole + 1) * columns);
        }
        faulty(text + "a", length, whole, MISPLACED);
        if (!isRow) {
            faulty(text + "/", length, whole, MISPLACED);
        } else if (whole == 3) {
            faulty(text + "/", length, whole, ROW_TOO_MANY);
        } else {
            faulty(text + "/", length + 1, whole + 1, TOO_EARLY);
            faulty(text + "//", length + 1, whole + 1, MISPLACED);
        }
        if (begun == (whole == 0 ? 4 : columns)) {
            faulty(text + "0", length, whole, CELL_TOO_MANY);
            faulty(text + "#", length, whole, CELL_TOO_MANY);
        }
    }

    /** "2: a byte that may not be there": of all 127 only #, / and figures may be anywhere */
    private static void everyByteThereIs() {
        for (int letter = 1; letter <= 127; letter++) {
            SandGroup x = new SandGroup();
            x.feed('1');
            x.feed(letter);
            boolean isCell = letter == '#' || (letter >= '0' && letter <= '9');
            int due = isCell ? 2 : letter == '/' ? -102 : -101;
            CHECK.due("1 and byte " + letter, x.read(), due);
            CHECK.due("its cause", x.why(2), isCell ? NONE : letter == '/' ? TOO_EARLY : MISPLACED);
        }
    }

    /** "4: a CELL too many in its ROW (a # or a figure: the fifth of the first ROW, later one more than the first ROW has)" */
    private static void aCellTooMany() {
        for (char cell : new char[] {'#', '0', '9'}) {
            faulty("1111" + cell, 4, 0, CELL_TOO_MANY);
            faulty("####" + cell, 4, 0, CELL_TOO_MANY);
            faulty("1/1" + cell, 3, 1, CELL_TOO_MANY);
            faulty("111/111" + cell, 7, 1, CELL_TOO_MANY);
            faulty("11/##/11" + cell, 8, 2, CELL_TOO_MANY);
            faulty("1111/1111/1111/1111" + cell, 19, 3, CELL_TOO_MANY);
        }
        // signs beside # and the figures are no CELLS
        for (char other : new char[] {'"', '$', '.', ':', 'a', (char) 127}) {
            faulty("1111" + other, 4, 0, MISPLACED);
            faulty("1/1" + other, 3, 1, MISPLACED);
        }
    }

    /** "5: a / behind a fourth ROW that is whole" */
    private static void aRowTooMany() {
        faulty("1/1/1/1/", 7, 3, ROW_TOO_MANY);
        faulty("#/#/#/#/#", 7, 3, ROW_TOO_MANY);
        faulty("1111/1111/1111/1111/", 19, 3, ROW_TOO_MANY);
        // the fourth isn't whole
        faulty("11/11/11/1/", 10, 3, MISPLACED);
        faulty("11/11/11//", 9, 3, MISPLACED);
        // it is whole, but the third
        faulty("11/11/11/", 9, 3, TOO_EARLY);
    }

    /** "10 and how many / stand ahead of it": not the one that is the FAULT */
    private static void slashesAheadOfIt() {
        faulty("/////", 0, 0, MISPLACED);
        faulty("1//", 2, 1, MISPLACED);
        faulty("1/1//", 4, 2, MISPLACED);
        faulty("1/1/1//", 6, 3, MISPLACED);
        faulty("1/1/1/1/", 7, 3, ROW_TOO_MANY);
        faulty("1/1/x/1", 4, 2, MISPLACED);
    }

    /** ".. of the first byte ..": whatever comes behind it */
    private static void theFirstFaultIsTold() {
        faulty("x", 0, 0, MISPLACED);
        faulty("x/y", 0, 0, MISPLACED);
        faulty("12/3/4", 4, 1, MISPLACED);
        faulty("12/345/", 5, 1, CELL_TOO_MANY);
        faulty("12345/12345", 4, 0, CELL_TOO_MANY);
        faulty("1/2/3/4/5/6", 7, 3, ROW_TOO_MANY);
        faulty("1234/1234/1234/1234/1", 19, 3, ROW_TOO_MANY);
        faulty("1234/1234/1234/12341", 19, 3, CELL_TOO_MANY);
        faulty("1234/1234/1234/1234 ", 19, 3, MISPLACED);
        faulty("12/34/5//", 7, 2, MISPLACED);
    }

    /** "the length, if it ends too early" */
    private static void tooEarlyAtTheLength() {
        String[] texts = {"", "1/", "12/", "12/3", "1/2/", "1/2/3/", "1234/", "1234/123", "1234/1234/1234/", "1234/1234/1234/123"};
        int[] slashes = {0, 1, 1, 1, 2, 3, 1, 1, 3, 3};
        for (int i = 0; i < texts.length; i++) {
            faulty(texts[i], texts[i].length(), slashes[i], TOO_EARLY);
        }
    }

    /** A tape of forty bytes is read as any other. */
    private static void fullTape() {
        faulty("1".repeat(40), 4, 0, CELL_TOO_MANY);
        faulty("1234/1234/1234/1234/1234/1234/1234/12345", 19, 3, ROW_TOO_MANY);
        SandGroup x = new SandGroup();
        CHECK.due("forty", Sand.feedAll(x, "12/34" + "x".repeat(35)), 40);
        CHECK.due("one more", x.feed('1'), FULL);
        CHECK.due("read", x.read(), -105);
        CHECK.due("a byte has room again", x.feed('1'), 1);
    }

    /** "The i-th CODE of WHY. NONE.": three of them, from 0 */
    private static void codesOfWhy() {
        SandGroup x = new SandGroup();
        Sand.readAll(x, "1/2/3x");
        int[] due = {1, 12, 2};
        for (int i = 0; i < 3; i++) {
            CHECK.due("why(" + i + ")", x.why(i), due[i]);
        }
        for (int i : new int[] {-1, 3, 4, Integer.MIN_VALUE, Integer.MAX_VALUE}) {
            CHECK.due("why(" + i + ")", x.why(i), NONE);
        }
        // the latest FAULT alone is told
        Sand.readAll(x, "12345");
        int[] then = {1, 10, 4};
        for (int i = 0; i < 3; i++) {
            CHECK.due("why(" + i + ")", x.why(i), then[i]);
        }
    }

    /** "Behind a text that came there is none (nor at first)." */
    private static void noneBehindATextThatCame() {
        SandGroup x = new SandGroup();
        noCodes("at first", x);
        x.read();
        CHECK.due("codes of a fault", x.count(6), 3);
        Sand.readAll(x, "12/34");
        noCodes("behind a grid", x);
        Sand.readAll(x, "12/34");
        noCodes("behind another", x);
    }

    private static void noCodes(String what, SandGroup x) {
        CHECK.due(what + " codes", x.count(6), 0);
        for (int i = -1; i <= 3; i++) {
            CHECK.due(what + " why(" + i + ")", x.why(i), NONE);
        }
    }

    /** "THE TAPE, which is empty behind each call that reads it" */
    private static void emptyBehindEachReading() {
        SandGroup x = new SandGroup();
        CHECK.due("a grid", Sand.readAll(x, "1/2/3/4"), 4);
        CHECK.due("empty", x.count(5), 0);
        CHECK.due("a fault", Sand.readAll(x, "1/2/x"), -104);
        CHECK.due("empty", x.count(5), 0);
        CHECK.due("nothing", x.read(), -100);
        CHECK.due("why: none stands ahead", x.why(1), 10);
        CHECK.due("the first byte", x.feed('5'), 1);
        CHECK.due("nothing is left of what was", x.read(), 1);
        CHECK.due("its height", x.height(0), 5);
        CHECK.due("columns", x.count(1), 1);
    }

    /** "THE TAPE is a GRID, which is so": nothing is left of the one that was */
    private static void aGridAnew() {
        SandGroup x = Sand.of("9999/####/9999/####");
        CHECK.due("read", Sand.readAll(x, "#1/2#"), 4);
        CHECK.holds("so it is", Sand.show(x).equals("# 1/2 #"));
        CHECK.due("grains", x.count(3), 3);
        x.wall(0, false);
        CHECK.due("a place where a wall was read is of 0", x.height(0), 0);
        CHECK.due("cell 4 is none", x.height(4), NONE);
        x.size(4, 4);
        CHECK.due("sixteen places", x.count(2), 16);
        CHECK.due("no grains", x.count(3), 0);
    }
}
