/** The edges that the document names of grains and scripts (Terms 3, promises 27 to 32), a method a sentence. */
public final class GrainEdgesTest {
    private static final Check CHECK = new Check("GrainEdgesTest");
    private static final int NONE = SandGroup.NONE, BAD = SandGroup.BAD, STATE = SandGroup.STATE, NOT = SandGroup.NOT;
    private static final int NOTHING = -11;
    private static final int[] FAR = {Integer.MIN_VALUE, -1000, 1000, Integer.MAX_VALUE};
    private static final int[] SEEDS = {0, 1, -1, 2, 7, 12345, -12345, 65535, 65536, -65536, 1 << 30, Integer.MAX_VALUE,
        Integer.MIN_VALUE, Integer.MIN_VALUE + 1, 1103515245, -1103515245};

    public static void main(String[] args) {
        avalancheFromStable();
        avalancheOfNone();
        areaByCells();
        avalancheInThought();
        againFromSettled();
        againAtFirstOrLater();
        againWithin2000();
        againNames();
        lotsFrom1To200();
        lotsWhereTheyFall();
        lotsAmongPlaces();
        lotsSettledFirst();
        lotsAsTheyCameFirst();
        lotsNames();
        lotsWithoutPlace();
        lotsAnew();
        judgedOnce();
        judgedAsHeightsAre();
        judgedNoPlace();
        judgedEmpty();
        toldFrom0ToAMillion();
        threeOrLessEverywhere();
        untoldComesFirst();
        toldByNumbersOfPlaces();
        toldMoreThanPlaces();
        listsThatAreNone();
        filmOfAllPlaces();
        CHECK.end();
    }

    /** "from HEIGHTS that are (they must be STABLE)" */
    private static void avalancheFromStable() {
        SandGroup x = Sand.of("33/#3");
        CHECK.due("stable", x.avalanche(0, 0), 3);
        for (int cell : new int[] {0, 1, 3}) {
            x.set(cell, 4);
            for (int what = 0; what < 4; what++) {
                CHECK.due("4 at " + cell, x.avalanche(0, what), STATE);
                CHECK.due("4 at " + cell, x.avalanche(3, what), STATE);
            }
            x.set(cell, 3);
        }
        CHECK.due("stable again", x.avalanche(0, 0), 3);
        for (int what : new int[] {-1, 4, 100, Integer.MIN_VALUE, Integer.MAX_VALUE}) {
            CHECK.due("avalanche(0, " + what + ")", x.avalanche(0, what), NONE);
        }
        for (int cell : new int[] {-1, 2, 4, Integer.MIN_VALUE, Integer.MAX_VALUE}) {
            CHECK.due("avalanche(" + cell + ", 0)", x.avalanche(cell, 0), NONE);
        }
    }

    /** A grain by which none TOPPLES: no SIZE, no AREA, none LOST, no ROUNDS */
    private static void avalancheOfNone() {
        for (int height = 0; height < 4; height++) {
            SandGroup x = Sand.of(1, 1, height);
            int[] due = height == 3 ? new int[] {1, 1, 4, 1} : new int[4];
            for (int what = 0; what < 4; what++) {
                CHECK.due("on " + height + " what " + what, x.avalanche(0, what), due[what]);
            }
        }
    }

    /** "AREA (PLACES that TOPPLE, as bits)": of CELLS, each once however often it TOPPLES */
    private static void areaByCells() {
        for (int cell = 0; cell < 16; cell++) {
            SandGroup x = Sand.of(cell == 0 ? "0000/0000/0000/0000" : "#000/0000/0000/0000");
            x.set(cell, 3);
            CHECK.due("alone " + cell, x.avalanche(cell, 1), 1 << cell);
            CHECK.due("once", x.avalanche(cell, 0), 1);
        }
        SandGroup y = Sand.of("030/333/030");
        CHECK.due("the middle twice", y.avalanche(4, 0), 6);
        CHECK.due("five of them", y.avalanche(4, 1), 2 + 8 + 16 + 32 + 128);
    }

    /** "one grain more there, in thought" */
    private static void avalancheInThought() {
        SandGroup x = Sand.of("33");
        for (int what = 0; what < 4; what++) {
            CHECK.due("first", x.avalanche(0, what), new int[] {2, 3, 6, 2}[what]);
            CHECK.due("and again", x.avalanche(0, what), new int[] {2, 3, 6, 2}[what]);
        }
        CHECK.holds("heights stay", Sand.show(x).equals("3 3"));
    }

    /** "AGAIN of a PLACE: from HEIGHTS SETTLED, in thought" */
    private static void againFromSettled() {
        // 4 2 -> 0 3
        SandGroup x = Sand.of("03");
        SandGroup y = Sand.of("42");
        CHECK.due("LENGTH", y.again(0, 0), x.again(0, 0));
        CHECK.due("AHEAD", y.again(0, 1), x.again(0, 1));
        CHECK.holds("heights stay", Sand.show(y).equals("4 2"));
        SandGroup z = Sand.of(1, 1, 999);
        CHECK.due("LENGTH from 999", z.again(0, 0), 4);
        CHECK.due("AHEAD from 999", z.again(0, 1), 0);
        CHECK.due("999 it stays", z.height(0), 999);
    }

    private static void came(String text, int cell, int length, int ahead) {
        SandGroup x = Sand.of(text);
        CHECK.due(text + " LENGTH", x.again(cell, 0), length);
        CHECK.due(text + " AHEAD", x.again(cell, 1), ahead);
    }

    /** "AHEAD is behind how many it was there (at first: 0), LENGTH so many grains less AHEAD" */
    private static void againAtFirstOrLater() {
        came("0", 0, 4, 0);
        came("30", 0, 15, 0);
        // 0 0 is never there again: 1 0, which came behind one grain, is
        came("00", 0, 15, 1);
        came("0#0", 2, 4, 0);
    }

    /** "behind so many grains (1 .. 2000)": behind the 2000th, and behind the 2001st */
    private static void againWithin2000() {
        came("21##/0030/1#0#/0#02", 4, 1976, 24);
        came("10##/0200/0#1#/2#01", 4, NOT, NOT);
        SandGroup x = Sand.of("10##/0200/0#1#/2#01");
        x.drop(4, 1);
        CHECK.due("one of its grains is there: LENGTH", x.again(4, 0), 1976);
        CHECK.due("one of its grains is there: AHEAD", x.again(4, 1), 24);
    }

    /** "what 0 LENGTH, 1 AHEAD. NONE" */
    private static void againNames() {
        SandGroup x = Sand.of("1#/22");
        for (int what : new int[] {-1, 2, Integer.MIN_VALUE, Integer.MAX_VALUE}) {
            CHECK.due("again(0, " + what + ")", x.again(0, what), NONE);
        }
        for (int cell : new int[] {-1, 1, 4, Integer.MIN_VALUE, Integer.MAX_VALUE}) {
            CHECK.due("again(" + cell + ", 0)", x.again(cell, 0), NONE);
        }
        CHECK.holds("the last place", x.again(3, 0) > 0);
    }

    /** "LOTS: n (1 .. 200) grains": all on the one place that there is */
    private static void lotsFrom1To200() {
        SandGroup x = Sand.of("0");
        int[] ns = {1, 3, 4, 5, 199, 200};
        for (int n : ns) {
            CHECK.due(n + " LOST", x.lots(9, n, 0), n / 4 * 4);
            CHECK.due(n + " SIZES", x.lots(9, n, 1), n / 4);
            CHECK.due(n + " greatest", x.lots(9, n, 2), n < 4 ? 0 : 1);
            CHECK.due(n + " unlike", x.lots(9, n, 3), n < 4 ? 1 : 2);
            CHECK.due(n + " how often none", x.lots(9, n, 400), n - n / 4);
            CHECK.due(n + " how often one", x.lots(9, n, 401), n < 4 ? NOT : n / 4);
        }
        for (int n : new int[] {0, -1, 201, Integer.MIN_VALUE, Integer.MAX_VALUE}) {
            CHECK.due("lots(9, " + n + ", 0)", x.lots(9, n, 0), BAD);
            CHECK.due("lots(9, " + n + ", 400)", x.lots(9, n, 400), BAD);
        }
    }

    /** Where the k-th grain (from 1) of a seed falls, told by longs: no sign, no wrap-around of an int. */
    private static int numberOf(int seed, int k, int places) {
        long z = seed & 0xFFFFFFFFL;
        for (int i = 0; i < k; i++) {
            z = (z * 1103515245L + 12345L) % 4294967296L;
        }
        return (int) (z % 2147483648L / 65536L % places);
    }

    /**
     * "z becomes z times 1103515245 and 12345 (an int; SEED at first); (z without its sign's bit
     * by 65536, cut) modulo how many PLACES there are": the first grain falls where a place
     * that has 3 topples by it, for seeds by which z wraps around and is below 0
     */
    private static void lotsWhereTheyFall() {
        CHECK.due("by hand: 1103527590 by 65536, 16838, modulo 3", numberOf(1, 1, 3), 2);
        CHECK.due("by hand: -1103502900, 1043980748 by 65536, 15929, modulo 3", numberOf(-1, 1, 3), 2);
        for (int seed : SEEDS) {
            fallsAt("0000/0000/0000/0000", seed, 16);
            fallsAt("000/0#0/000", seed, 8);
            fallsAt("00#0/0000", seed, 7);
            fallsAt("0#0/#0#", seed, 3);
        }
    }

    private static void fallsAt(String text, int seed, int places) {
        int number = 0;
        String cells = text.replace("/", "");
        for (int cell = 0; cell < cells.length(); cell++) {
            if (cells.charAt(cell) == '0') {
                SandGroup x = Sand.of(text);
                x.set(cell, 3);
                int due = number == numberOf(seed, 1, places) ? 1 : 0;
                CHECK.due(text + " seed " + seed + " at " + cell, x.lots(seed, 1, 1), due);
                number++;
            }
        }
    }

    /** "the one of that number among them (by CELLS, from 0) has one grain more": also each grain behind the first */
    private static void lotsAmongPlaces() {
        for (int seed : SEEDS) {
            int[] fell = new int[3];
            SandGroup x = Sand.of("3#/13");
            for (int n = 1; n <= 9; n++) {
                fell[numberOf(seed, n, 3)]++;
                // it comes to the same when all are there ahead of the settling
                SandGroup y = Sand.of("3#/13");
                y.set(0, 3 + fell[0]);
                y.set(2, 1 + fell[1]);
                y.set(3, 3 + fell[2]);
                CHECK.due("seed " + seed + ", " + n + ": SIZES together", x.lots(seed, n, 1), y.settled(0));
                CHECK.due("seed " + seed + ", " + n + ": LOST", x.lots(seed, n, 0), y.settled(1));
            }
        }
    }

    /** "from HEIGHTS SETTLED .. LOST together (not what is LOST as HEIGHTS are SETTLED first)" */
    private static void lotsSettledFirst() {
        SandGroup x = Sand.of(1, 1, 999);
        CHECK.due("LOST of 3 and 1", x.lots(3, 1, 0), 4);
        CHECK.due("SIZES", x.lots(3, 1, 1), 1);
        CHECK.due("greatest", x.lots(3, 1, 2), 1);
        CHECK.due("the first SIZE", x.lots(3, 1, 100), 1);
        x.set(0, 998);
        CHECK.due("LOST of 2 and 1", x.lots(3, 1, 0), 0);
        CHECK.due("unlike", x.lots(3, 1, 3), 1);
        CHECK.due("998 it stays", x.height(0), 998);
    }

    /** "the unlike ones as they came first, how often each came" */
    private static void lotsAsTheyCameFirst() {
        SandGroup x = Sand.of("3");
        // SIZES 1 0 0 0 1 0 0 0 1
        int[] due = {1, 0, NOT};
        int[] often = {3, 6, NOT};
        for (int i = 0; i < 3; i++) {
            CHECK.due("SIZE " + i, x.lots(0, 9, 100 + i), due[i]);
            CHECK.due("how often " + i, x.lots(0, 9, 400 + i), often[i]);
        }
        SandGroup y = Sand.of("2");
        // SIZES 0 1 0 0 0 1
        CHECK.due("SIZE 0", y.lots(0, 6, 100), 0);
        CHECK.due("SIZE 1", y.lots(0, 6, 101), 1);
        CHECK.due("how often 0", y.lots(0, 6, 400), 4);
        CHECK.due("how often 1", y.lots(0, 6, 401), 2);
    }

    /** "NONE: what (below 0, 4 .. 99) .. NOT: no i-th": 100 and i, 400 and i, i 0 .. 299 */
    private static void lotsNames() {
        SandGroup x = Sand.of("0");
        int[] none = {Integer.MIN_VALUE, -100, -1, 4, 5, 50, 98, 99};
        int[] not = {101, 102, 299, 300, 301, 398, 399, 401, 402, 500, 698, 699, 700, 1000, Integer.MAX_VALUE};
        for (int what : none) {
            CHECK.due("lots(1, 2, " + what + ")", x.lots(1, 2, what), NONE);
            CHECK.due("NONE is named ahead of BAD", x.lots(1, 0, what), NONE);
        }
        for (int what : not) {
            CHECK.due("lots(1, 2, " + what + ")", x.lots(1, 2, what), NOT);
            CHECK.due("BAD is named ahead of NOT", x.lots(1, 201, what), BAD);
        }
        CHECK.due("the first SIZE", x.lots(1, 2, 100), 0);
        CHECK.due("how often it came", x.lots(1, 2, 400), 2);
    }

    /** "STATE: there is no PLACE" */
    private static void lotsWithoutPlace() {
        SandGroup x = Sand.of("##");
        for (int what : new int[] {0, 1, 2, 3, 100, 399, 400, 700}) {
            CHECK.due("lots(1, 1, " + what + ")", x.lots(1, 1, what), STATE);
        }
        CHECK.due("NONE is named ahead", x.lots(1, 1, 4), NONE);
        CHECK.due("BAD is named ahead", x.lots(1, 0, 0), BAD);
        x.wall(1, false);
        CHECK.due("there is one", x.lots(1, 1, 3), 1);
    }

    /** What is counted of some LOTS is of these alone, not of those asked ahead. */
    private static void lotsAnew() {
        SandGroup x = Sand.of("3333/3333/3333/3333");
        x.lots(5, 200, 3);
        x.size(1, 1);
        CHECK.due("LOST", x.lots(5, 3, 0), 0);
        CHECK.due("SIZES", x.lots(5, 3, 1), 0);
        CHECK.due("greatest", x.lots(5, 3, 2), 0);
        CHECK.due("unlike", x.lots(5, 3, 3), 1);
        CHECK.due("how often", x.lots(5, 3, 400), 3);
        CHECK.due("no more", x.lots(5, 3, 101), NOT);
    }

    private static void judged(SandGroup x, int due, int... script) {
        Sand.fillList(x, 3, script);
        CHECK.due("judge " + java.util.Arrays.toString(script), x.judge(3), due);
    }

    /** "the first of its places whose CELL .. may not TOPPLE then (.. each that may TOPPLES once ..)" */
    private static void judgedOnce() {
        SandGroup x = Sand.of("43");
        judged(x, 0, 1);
        judged(x, NOT, 0, 1);
        judged(x, 2, 0, 1, 0);
        judged(x, 2, 0, 1, 1);
        SandGroup y = Sand.of("7");
        judged(y, NOT, 0);
        judged(y, 1, 0, 0);
        y.set(0, 8);
        judged(y, NOT, 0, 0);
        judged(y, 2, 0, 0, 0);
    }

    /** "(HEIGHTS as they are .. in thought)": not SETTLED first */
    private static void judgedAsHeightsAre() {
        SandGroup x = Sand.of(1, 1, 160);
        judged(x, NOT, new int[40]);
        x.set(0, 159);
        judged(x, 39, new int[40]);
        judged(x, 39, new int[40]);
        CHECK.due("159 it stays", x.height(0), 159);
    }

    /** "whose CELL is no PLACE" */
    private static void judgedNoPlace() {
        SandGroup x = Sand.of("9#/99");
        for (int cell : new int[] {-1, 1, 4, 16, Integer.MIN_VALUE, Integer.MAX_VALUE}) {
            judged(x, 0, cell, 0);
            judged(x, 2, 0, 3, cell);
        }
    }

    /** "NOT: all may": also where there are none */
    private static void judgedEmpty() {
        judged(Sand.of("0"), NOT);
        judged(Sand.of("#"), NOT);
        judged(Sand.of("#"), 0, 0);
    }

    private static void told(SandGroup x, int due, int... row) {
        Sand.fillList(x, 0, row);
        CHECK.due("steadies " + java.util.Arrays.toString(row), x.steadies(0), due);
    }

    /** "a number of 0 or more for each PLACE .. one below 0 or above 1000000" */
    private static void toldFrom0ToAMillion() {
        SandGroup x = Sand.of("33");
        told(x, NOT, 0, 0);
        told(x, 0, -1, 0);
        told(x, 1, 0, -1);
        told(x, NOT, 1000000, 1000000);
        told(x, 0, 1000001, 1000000);
        told(x, 1, 1000000, 1000001);
        told(x, 0, Integer.MIN_VALUE, Integer.MAX_VALUE);
        told(x, 0, Integer.MAX_VALUE, 0);
        told(x, 1, 0, Integer.MAX_VALUE);
        told(x, 1, 0, Integer.MIN_VALUE);
    }

    /** "HEIGHT less 4 times its own and more by those of all NEXT is 3 or less everywhere .. the first that comes out above 3" */
    private static void threeOrLessEverywhere() {
        SandGroup x = Sand.of(1, 1, 999);
        told(x, NOT, 249);
        told(x, 0, 248);
        told(x, NOT, 250);
        SandGroup y = Sand.of("000/070/000");
        told(y, NOT, 0, 0, 0, 0, 1, 0, 0, 0, 0);
        told(y, 4, 0, 0, 0, 0, 0, 0, 0, 0, 0);
        // 7 - 4 and one from each side that is told
        told(y, 4, 0, 1, 0, 0, 1, 0, 0, 0, 0);
        told(y, 4, 0, 0, 0, 1, 1, 0, 0, 0, 0);
        told(y, 4, 0, 0, 0, 0, 1, 1, 0, 0, 0);
        told(y, 4, 0, 0, 0, 0, 1, 0, 0, 1, 0);
        told(y, NOT, 1, 0, 1, 0, 1, 0, 1, 0, 1);
        SandGroup z = Sand.of("4004");
        told(z, 0, 0, 0, 0, 0);
        told(z, 3, 1, 0, 0, 0);
        told(z, NOT, 1, 0, 0, 1);
    }

    /** "the first PLACE for which none is told, or one below 0 ..; if there is none such, the first that comes out above 3" */
    private static void untoldComesFirst() {
        SandGroup x = Sand.of("999");
        told(x, 0);
        told(x, 1, 0);
        told(x, 2, 0, 0);
        told(x, 0, 0, 0, 0);
        told(x, 2, 0, 0, -1);
        told(x, 1, 0, 1000001, -1);
        told(x, 1, 0, -1);
    }

    /** "(told by its number among PLACES, the least CELL's being 0, not by its CELL)" */
    private static void toldByNumbersOfPlaces() {
        SandGroup x = Sand.of("##4/#44");
        told(x, 0, 0, 0, 0);
        told(x, 1, 1, 0, 1);
        told(x, 2, 1, 1);
        told(x, 1, 1, -1, 0);
        // 4 - 4 + 1, 4 - 4 + 1, 4 - 4 + 2
        told(x, NOT, 1, 1, 1);
        // 4 - 4 + 0, 4 + 1 - 4 * 0 above 3
        told(x, 1, 1, 0, 0);
        SandGroup y = Sand.of("3#3/3#9");
        // 9 - 4 - 4; above it 3 and 2
        told(y, 1, 0, 0, 0, 2);
        told(y, NOT, 0, 1, 0, 2);
    }

    /** "its places 0, 1, .. tell a number .. for each PLACE": what stands behind them doesn't matter */
    private static void toldMoreThanPlaces() {
        SandGroup x = Sand.of("4#");
        told(x, NOT, 1, -1, 1000001, Integer.MIN_VALUE);
        told(x, 0, 0, 1, 1);
        SandGroup y = Sand.of("#");
        told(y, NOT);
        told(y, NOT, -1);
        int[] forty = new int[40];
        forty[0] = 1;
        forty[39] = -1;
        told(x, NOT, forty);
    }

    /** "NONE: list; NOTHING": LISTS 0 .. 3 */
    private static void listsThatAreNone() {
        SandGroup x = new SandGroup();
        for (int list = 0; list < 4; list++) {
            CHECK.due("judge(" + list + ")", x.judge(list), NOTHING);
            CHECK.due("steadies(" + list + ")", x.steadies(list), NOTHING);
        }
        for (int no : new int[] {-1, 4, FAR[0], FAR[1], FAR[2], FAR[3]}) {
            CHECK.due("judge(" + no + ")", x.judge(no), NONE);
            CHECK.due("steadies(" + no + ")", x.steadies(no), NONE);
            CHECK.due("film(" + no + ")", x.film(no), NONE);
        }
        for (int list = 0; list < 4; list++) {
            CHECK.due("film(" + list + ")", x.film(list), 9);
            CHECK.due("judge(" + list + ")", x.judge(list), 0);
            CHECK.due("steadies(" + list + ")", x.steadies(list), NOT);
        }
    }

    /** "A LIST becomes COUNTS of all PLACES, were HEIGHTS SETTLED, by CELLS: how many" */
    private static void filmOfAllPlaces() {
        SandGroup x = Sand.of("9999/9#99/9999/99#9");
        Sand.fillList(x, 2, new int[40]);
        CHECK.due("film", x.film(2), 14);
        int number = 0;
        for (int cell = 0; cell < 16; cell++) {
            int count = x.settled(100 + cell);
            if (count >= 0) {
                CHECK.due("COUNT of " + cell, x.get(2, number), count);
                number++;
            }
        }
        CHECK.due("no more", x.get(2, 14), SandGroup.NO);
        CHECK.due("it steadies", x.steadies(2), NOT);
        CHECK.due("9 it stays", x.height(0), 9);
        SandGroup y = Sand.of("#");
        CHECK.due("no place", y.film(0), 0);
        CHECK.due("it holds a row of none", y.judge(0), NOT);
        SandGroup z = Sand.of("0000/0000/0000/0000");
        CHECK.due("sixteen", z.film(3), 16);
        CHECK.due("the last", z.get(3, 15), 0);
        CHECK.due("no more", z.get(3, 16), SandGroup.NO);
    }
}
