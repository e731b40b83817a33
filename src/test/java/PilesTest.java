/** Promises 15 to 24: piles, their sums and their group. */
public final class PilesTest {
    private static final Check CHECK = new Check("PilesTest");
    private static final int NONE = SandGroup.NONE, BAD = SandGroup.BAD, NOT = SandGroup.NOT, EMPTY = SandGroup.EMPTY;
    private static final String[] GRIDS = {"0", "00", "0/0/0", "000/0#0", "#00/000/00#", "000/000/000",
        "0000/0##0/0000", "0#0/#0#/0#0", "0000/0000/0000/0000", "##/##"};

    public static void main(String[] args) {
        keep();
        load();
        pile();
        sum();
        smallGroups();
        for (String grid : GRIDS) {
            noughtOf(grid);
            opposites(grid);
            multiples(grid);
        }
        timesByHand();
        timesRefuses();
        oppositeRefuses();
        order();
        one();
        group();
        CHECK.end();
    }

    private static void keep() {
        SandGroup x = Sand.of(1, 2, 4, 3);
        CHECK.due("keep none", x.keep(6), NONE);
        CHECK.due("keep none", x.keep(-1), NONE);
        CHECK.due("keep", x.keep(5), 2);
        CHECK.holds("kept SETTLED", Sand.showPile(x, 5).equals("1 0"));
        CHECK.holds("in thought", Sand.show(x).equals("4 3"));
        CHECK.due("no change", x.count(7), 2);
        CHECK.due("piles", x.count(4), 1);
        x.set(0, 2);
        CHECK.due("keep again", x.keep(5), 0);
        CHECK.holds("kept anew", Sand.showPile(x, 5).equals("2 3"));
        CHECK.due("piles", x.count(4), 1);
    }

    private static void load() {
        SandGroup x = Sand.of("3#2");
        x.keep(0);
        x.set(0, 900);
        CHECK.due("load", x.load(0), 5);
        CHECK.holds("loaded", Sand.show(x).equals("3 # 2"));
        CHECK.due("a change", x.count(7), 2);
        CHECK.due("load again", x.load(0), 5);
        CHECK.due("a change too", x.count(7), 3);
        CHECK.due("none", x.load(6), NONE);
        CHECK.due("none", x.load(-1), NONE);
        CHECK.due("empty", x.load(1), EMPTY);
        CHECK.due("refused: no change", x.count(7), 3);
        x.undo();
        x.undo();
        CHECK.due("undone", x.height(0), 900);
        x.redo();
        CHECK.due("done again", x.height(0), 3);
    }

    private static void pile() {
        SandGroup x = Sand.of("3#2");
        CHECK.due("empty", x.pile(0, 0), EMPTY);
        CHECK.due("NONE first", x.pile(0, 1), NONE);
        CHECK.due("none", x.pile(6, 0), NONE);
        x.keep(0);
        CHECK.due("pile", x.pile(0, 0), 3);
        CHECK.due("wall", x.pile(0, 1), NONE);
        CHECK.due("pile", x.pile(0, 2), 2);
        CHECK.due("no cell", x.pile(0, 3), NONE);
        CHECK.due("no cell", x.pile(0, -1), NONE);
        CHECK.due("no pile", x.pile(-1, 0), NONE);
    }

    private static void sum() {
        SandGroup x = Sand.of(1, 2, 3, 2);
        x.keep(0);
        x.load(0);
        // 3 2 twice: 6 4 -> 2 5 -> 3 1
        CHECK.due("sum with itself", x.sum(1, 0, 0), 2);
        CHECK.holds("3 1", Sand.showPile(x, 1).equals("3 1"));
        CHECK.due("onto itself", x.sum(0, 0, 0), 2);
        CHECK.due("same", x.one(0, 1), 2);
        // 3 1 and 3 1: 6 2 -> 2 3
        CHECK.due("onto one of the two", x.sum(1, 0, 1), 1);
        CHECK.holds("2 3", Sand.showPile(x, 1).equals("2 3"));
        CHECK.due("none", x.sum(6, 0, 1), NONE);
        CHECK.due("none", x.sum(0, -1, 1), NONE);
        CHECK.due("none", x.sum(0, 1, 6), NONE);
        CHECK.due("NONE first", x.sum(6, 2, 2), NONE);
        CHECK.due("empty", x.sum(0, 2, 1), EMPTY);
        CHECK.due("empty", x.sum(0, 1, 2), EMPTY);
        CHECK.due("no change", x.count(7), 3);
        CHECK.holds("refused: as it was", Sand.showPile(x, 0).equals("3 1"));
    }

    /** One place alone: four recurrent piles, and sums modulo 4. */
    private static void smallGroups() {
        SandGroup x = Sand.of("0");
        CHECK.due("group", x.group(), 4);
        CHECK.due("nought", x.nought(0), 0);
        int[] orders = {1, 4, 2, 4};
        int[] opposites = {0, 3, 2, 1};
        for (int h = 0; h < 4; h++) {
            x.set(0, h);
            x.keep(1);
            CHECK.due("order of " + h, x.order(1), orders[h]);
            CHECK.due("opposite of " + h, x.opposite(2, 1), opposites[h]);
            for (int k = 0; k < 9; k++) {
                CHECK.due(k + " times " + h, x.times(3, 1, k), k * h % 4);
            }
            CHECK.due("a billion times", x.times(3, 1, 1000000000), 0);
            CHECK.due("a billion less one times", x.times(3, 1, 999999999), 3 * h % 4);
        }
        // two places: 4 * 4 - 1 recurrent piles; that of the sum 3 3 and 3 3 is known: 6 6 -> 3 3 twice
        SandGroup y = Sand.of("00");
        CHECK.due("group", y.group(), 15);
        CHECK.due("nought", y.nought(0), 6);
        CHECK.holds("3 3", Sand.showPile(y, 0).equals("3 3"));
        CHECK.due("none", y.nought(6), NONE);
        CHECK.due("none", y.nought(-1), NONE);
    }

    private static void noughtOf(String grid) {
        SandGroup x = Sand.of(grid);
        int grains = x.nought(0);
        CHECK.due(grid + " nought is recurrent", x.burn(0, 0), 1);
        x.sum(1, 0, 0);
        CHECK.due(grid + " nought with itself", x.one(0, 1), 2);
        CHECK.due(grid + " order of nought", x.order(0), 1);
        CHECK.due(grid + " grains of nought", x.load(0), grains);
    }

    private static void scatter(SandGroup x, int seed) {
        for (int cell = 0; cell < x.count(0); cell++) {
            x.set(cell, (cell * cell + seed * 7 + cell * seed) % 4);
        }
    }

    private static void opposites(String grid) {
        SandGroup x = Sand.of(grid);
        x.nought(0);
        for (int seed = 0; seed < 8; seed++) {
            scatter(x, seed);
            x.keep(1);
            int grains = x.opposite(2, 1);
            CHECK.due(grid + " opposite is recurrent", x.burn(2, 0), 1);
            x.sum(3, 1, 2);
            CHECK.due(grid + " sum with the opposite", x.one(3, 0), 2);
            CHECK.due(grid + " opposite onto itself", x.opposite(1, 1), grains);
            CHECK.due(grid + " the same", x.one(1, 2), 2);
            CHECK.due(grid + " grains", x.load(2), grains);
        }
    }

    private static void multiples(String grid) {
        SandGroup x = Sand.of(grid);
        for (int seed = 0; seed < 5; seed++) {
            scatter(x, seed);
            x.keep(1);
            x.nought(2);
            for (int k = 0; k < 12; k++) {
                int grains = x.times(3, 1, k);
                CHECK.due(grid + " times " + k, x.one(2, 3), 2);
                CHECK.due(grid + " grains", x.load(3), grains);
                x.sum(2, 2, 1);
            }
            // 1000 times 1000000 is a billion
            x.times(4, 1, 1000);
            x.times(4, 4, 1000000);
            x.times(5, 1, 1000000000);
            CHECK.due(grid + " a billion", x.one(4, 5), 2);
        }
    }

    private static void timesByHand() {
        // 00: 1 0 is of order 15, as four of it count as one of the other, and 15 as nothing
        SandGroup x = Sand.of("10");
        x.keep(0);
        CHECK.due("order", x.order(0), 15);
        x.times(1, 0, 4);
        x.set(0, 0);
        x.set(1, 1);
        x.keep(2);
        // 3 3 and 4 0: 7 3 -> 3 4 -> 4 0 -> 0 1
        CHECK.due("four of it are the other", x.one(1, 2), 2);
        x.times(3, 0, 15);
        x.nought(4);
        CHECK.due("fifteen are nought", x.one(3, 4), 2);
        x.times(3, 0, 1000000000);
        x.times(4, 0, 1000000000 % 15);
        CHECK.due("modulo 15", x.one(3, 4), 2);
    }

    private static void timesRefuses() {
        SandGroup x = Sand.of("12");
        x.keep(0);
        CHECK.due("none", x.times(6, 0, 1), NONE);
        CHECK.due("none", x.times(0, 6, 1), NONE);
        CHECK.due("none", x.times(-1, 0, 1), NONE);
        CHECK.due("NONE first", x.times(0, -1, -1), NONE);
        CHECK.due("bad", x.times(1, 0, -1), BAD);
        CHECK.due("bad", x.times(1, 0, 1000000001), BAD);
        CHECK.due("bad before empty", x.times(1, 2, Integer.MIN_VALUE), BAD);
        CHECK.due("empty", x.times(1, 2, 0), EMPTY);
        CHECK.due("nothing held", x.pile(1, 0), EMPTY);
        CHECK.holds("onto itself", x.times(0, 0, 1) >= 0 && x.burn(0, 0) == 1);
    }

    private static void oppositeRefuses() {
        SandGroup x = Sand.of("12");
        x.keep(0);
        CHECK.due("none", x.opposite(6, 0), NONE);
        CHECK.due("none", x.opposite(0, 6), NONE);
        CHECK.due("none", x.opposite(0, -1), NONE);
        CHECK.due("NONE first", x.opposite(6, 1), NONE);
        CHECK.due("empty", x.opposite(0, 1), EMPTY);
    }

    private static void order() {
        SandGroup x = Sand.of("0000/0000/0000/0000");
        x.set(5, 1);
        x.keep(0);
        CHECK.due("above 2000", x.order(0), NOT);
        CHECK.due("empty", x.order(1), EMPTY);
        CHECK.due("none", x.order(6), NONE);
        CHECK.due("none", x.order(-1), NONE);
        // 0#0 has 4 * 4 piles, none of an order above 4
        SandGroup y = Sand.of("1#2");
        y.keep(0);
        CHECK.due("least common multiple", y.order(0), 4);
        // a row of four: 209 piles, and one grain at its end makes them all
        SandGroup z = Sand.of("1000");
        z.keep(0);
        CHECK.due("order", z.order(0), 209);
        CHECK.due("group", z.group(), 209);
        // two such rows apart: of one of them alone
        SandGroup w = Sand.of("1000/####/0000");
        w.keep(0);
        CHECK.due("order of a part", w.order(0), 209);
        CHECK.due("group of both", w.group(), 209L * 209L);
        SandGroup v = Sand.of("1000/###1");
        v.keep(0);
        CHECK.due("order by sums", v.order(0), orderBySums(v));
        // parts of order 209 and 4: 836, and with one of 15 beside: 12540, above 2000
        SandGroup u = Sand.of("1000/####/1#00");
        u.keep(0);
        CHECK.due("836", u.order(0), 836);
        u.set(10, 1);
        u.keep(0);
        CHECK.due("12540", u.order(0), NOT);
        orderAtTheLimit("1221/#2#3/#123/3330", 2000, 2000, 2, 5);
        orderAtTheLimit("0#01/#12#/3#23/2111", 2001, NOT, 3, 23, 29);
    }

    /** It is of just that order: so many times make nought, fewer by any prime factor don't. */
    private static void orderAtTheLimit(String text, int order, int answer, int... primes) {
        SandGroup x = Sand.of(text);
        x.keep(0);
        CHECK.due("order of " + text, x.order(0), answer);
        x.nought(1);
        x.times(2, 0, order);
        CHECK.due("so many times " + text, x.one(1, 2), 2);
        for (int prime : primes) {
            x.times(2, 0, order / prime);
            CHECK.due("fewer times " + text, x.one(1, 2), 0);
        }
    }

    private static int orderBySums(SandGroup x) {
        x.nought(4);
        x.nought(5);
        for (int k = 1; k <= 2000; k++) {
            x.sum(5, 5, 0);
            if (x.one(5, 4) == 2) {
                return k;
            }
        }
        return NOT;
    }

    private static void one() {
        SandGroup fresh = Sand.of("00");
        fresh.keep(0);
        fresh.set(0, 3);
        fresh.set(1, 3);
        fresh.keep(1);
        CHECK.due("nothing and nought, ahead of any other sum", fresh.one(0, 1), 1);
        SandGroup x = Sand.of("00");
        x.keep(0);
        x.nought(1);
        CHECK.due("itself", x.one(0, 0), 2);
        CHECK.due("0 0 is nought", x.one(0, 1), 1);
        CHECK.due("either way", x.one(1, 0), 1);
        x.set(0, 1);
        x.keep(2);
        CHECK.due("1 0 is not", x.one(2, 0), 0);
        x.set(0, 0);
        x.keep(3);
        CHECK.due("the same", x.one(0, 3), 2);
        CHECK.due("none", x.one(6, 0), NONE);
        CHECK.due("none", x.one(0, 6), NONE);
        CHECK.due("NONE first", x.one(5, -1), NONE);
        CHECK.due("empty", x.one(0, 5), EMPTY);
        CHECK.due("empty", x.one(5, 0), EMPTY);
        CHECK.due("empty with itself", x.one(5, 5), EMPTY);
    }

    private static void group() {
        CHECK.due("no place", Sand.of("#").group(), 1);
        CHECK.due("one", Sand.of("9").group(), 4);
        CHECK.due("three in a row", Sand.of("000").group(), 56);
        CHECK.due("three in a column", Sand.of("0/0/0").group(), 56);
        CHECK.due("apart", Sand.of("0#0").group(), 16);
        CHECK.due("2 by 2", Sand.of("00/00").group(), 192);
        CHECK.due("3 by 3", new SandGroup().group(), 100352);
        CHECK.due("4 by 4", Sand.of("0000/0000/0000/0000").group(), 557568000);
        CHECK.due("eight alone", Sand.of("0#0#/#0#0/0#0#/#0#0").group(), 65536);
    }
}
