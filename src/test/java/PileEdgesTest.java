import java.util.function.Consumer;

/** The edges that the document names of piles and burning (Terms 2, promises 15 to 26), a method a sentence. */
public final class PileEdgesTest {
    private static final Check CHECK = new Check("PileEdgesTest");
    private static final int NONE = SandGroup.NONE, BAD = SandGroup.BAD, STATE = SandGroup.STATE, NOT = SandGroup.NOT,
        EMPTY = SandGroup.EMPTY;
    private static final int[] NO_PILES = {-1, 6, 7, Integer.MIN_VALUE, Integer.MAX_VALUE};

    public static void main(String[] args) {
        pilesFrom0To5();
        nothingAtFirst();
        forgottenWithTheGrid();
        notForgottenOtherwise();
        sumIsSettled();
        noLessThanUnburntNexts();
        asTheRoundBegan();
        aRoundOfNoneIsNotCounted();
        asManyRoundsAsPlaces();
        recurrentWithoutPlace();
        groupWithoutPlace();
        theOneNought();
        timesFrom0();
        timesToABillion();
        orderFrom1();
        orderTo2000();
        oppositeIsRecurrent();
        sameOrOneOrNeither();
        keepSettlesInThought();
        loadTellsGrains();
        pileOfNoPlace();
        sumOntoItself();
        burnNames();
        throughSixPlaces();
        groupBehindAGreaterGrid();
        CHECK.end();
    }

    /** "PILES 0 .. 5": each of its own, and none beside them */
    private static void pilesFrom0To5() {
        SandGroup x = Sand.of("00");
        for (int pile = 0; pile < 6; pile++) {
            x.set(0, pile / 3);
            x.set(1, pile % 3);
            CHECK.due("keep(" + pile + ")", x.keep(pile), 0);
            CHECK.due("piles", x.count(4), pile + 1);
        }
        for (int pile = 0; pile < 6; pile++) {
            CHECK.holds("pile " + pile, Sand.showPile(x, pile).equals(pile / 3 + " " + pile % 3));
        }
        for (int no : NO_PILES) {
            for (int call = 0; call < 15; call++) {
                CHECK.due("call " + call + " of pile " + no, pileCall(x, call, no, 0), NONE);
            }
        }
        CHECK.due("piles", x.count(4), 6);
    }

    /** Each place of each call where a pile is named: that pile there, one that holds something elsewhere. */
    private static long pileCall(SandGroup x, int call, int pile, int held) {
        switch (call) {
            case 0: return x.load(pile);
            case 1: return x.pile(pile, 0);
            case 2: return x.sum(held, pile, held);
            case 3: return x.sum(held, held, pile);
            case 4: return x.times(held, pile, 0);
            case 5: return x.opposite(held, pile);
            case 6: return x.order(pile);
            case 7: return x.one(pile, held);
            case 8: return x.one(held, pile);
            case 9: return x.burn(pile, 0);
            case 10: return x.keep(pile);
            case 11: return x.sum(pile, held, held);
            case 12: return x.nought(pile);
            case 13: return x.times(pile, held, 0);
            default: return x.opposite(pile, held);
        }
    }

    /** "PILES 0 .. 5 hold nothing (at first)": EMPTY by each call that reads one, and it holds nothing then either */
    private static void nothingAtFirst() {
        for (int pile = 1; pile < 6; pile++) {
            SandGroup x = Sand.of("31");
            CHECK.due("none at first", x.count(4), 0);
            x.keep(0);
            for (int call = 0; call < 10; call++) {
                CHECK.due("call " + call + " of pile " + pile, pileCall(x, call, pile, 0), EMPTY);
            }
            CHECK.due("burn(" + pile + ", 1)", x.burn(pile, 1), EMPTY);
            CHECK.due("burn(" + pile + ", 100)", x.burn(pile, 100), EMPTY);
            CHECK.due("both are empty", x.sum(0, pile, pile), EMPTY);
            CHECK.due("one with itself", x.one(pile, pile), EMPTY);
            CHECK.due("that alone", x.count(4), 1);
            CHECK.holds("as it was", Sand.showPile(x, 0).equals("3 1"));
        }
        for (int call = 0; call < 10; call++) {
            CHECK.due("call " + call + " of pile 0", pileCall(new SandGroup(), call, 0, 0), EMPTY);
        }
    }

    /** 12/#3 with piles 0 and 5 that hold something and changes both ways. */
    private static SandGroup withPiles() {
        SandGroup x = Sand.of("12/#3");
        x.keep(0);
        x.nought(5);
        x.set(0, 3);
        x.set(0, 4);
        x.undo();
        return x;
    }

    private static void forgets(String what, Consumer<SandGroup> act) {
        SandGroup x = withPiles();
        act.accept(x);
        CHECK.due(what + ": piles", x.count(4), 0);
        for (int pile = 0; pile < 6; pile++) {
            CHECK.due(what + ": pile " + pile, x.pile(pile, 0), EMPTY);
        }
        CHECK.due(what + ": undo", x.undo(), STATE);
        CHECK.due(what + ": redo", x.redo(), STATE);
    }

    private static void leaves(String what, Consumer<SandGroup> act) {
        SandGroup x = withPiles();
        act.accept(x);
        CHECK.due(what + ": piles", x.count(4), 2);
        CHECK.holds(what + ": pile 0", Sand.showPile(x, 0).equals("1 2/# 3"));
        CHECK.due(what + ": pile 5", x.burn(5, 0), 1);
        CHECK.due(what + ": pile 1", x.load(1), EMPTY);
    }

    /** "none does any more when the GRID's size is told (also as it was), a WALL told otherwise, or a text read without FAULT" */
    private static void forgottenWithTheGrid() {
        forgets("another size", x -> x.size(3, 3));
        forgets("the size as it was", x -> x.size(2, 2));
        forgets("a wall", x -> x.wall(1, true));
        forgets("a place", x -> x.wall(2, false));
        forgets("another text", x -> Sand.readAll(x, "1"));
        forgets("the text as it was", x -> Sand.readAll(x, "32/#3"));
    }

    /** .. and at nothing else */
    private static void notForgottenOtherwise() {
        leaves("a wall as it was", x -> x.wall(2, true));
        leaves("a place as it was", x -> x.wall(0, false));
        leaves("a wall that is no cell", x -> x.wall(4, true));
        leaves("a size that is refused", x -> x.size(0, 2));
        leaves("a text with a fault", x -> Sand.readAll(x, "32/#"));
        leaves("no text", SandGroup::read);
        leaves("set", x -> x.set(0, 9));
        leaves("drop", x -> x.drop(0, 9));
        leaves("topple", x -> {
            x.set(0, 9);
            x.topple(0);
        });
        leaves("settle", SandGroup::settle);
        leaves("load", x -> x.load(0));
        leaves("undo", SandGroup::undo);
        leaves("redo", SandGroup::redo);
    }

    /** "SUM of two: their HEIGHTS together, SETTLED": 3 stays, 4 topples */
    private static void sumIsSettled() {
        for (int a = 0; a < 4; a++) {
            for (int b = 0; b < 4; b++) {
                SandGroup x = Sand.of(1, 1, a);
                x.keep(0);
                x.set(0, b);
                x.keep(1);
                CHECK.due(a + " and " + b, x.sum(2, 0, 1), a + b > 3 ? 1 : 0);
                CHECK.due(a + " and " + b + " are", x.pile(2, 0), (a + b) % 4);
            }
        }
    }

    /**
     * "whose HEIGHT is no less than how many NEXT to them had not burnt": a place among
     * none to four others, which are 0 and burn behind it alone
     */
    private static void noLessThanUnburntNexts() {
        int[] sides = {1, 3, 5, 7};
        for (int many = 0; many <= 4; many++) {
            for (int height = 0; height < 4; height++) {
                SandGroup x = Sand.of("###/#0#/###");
                for (int side = 0; side < many; side++) {
                    x.wall(sides[side], false);
                }
                x.set(4, height);
                x.keep(0);
                boolean burns = height >= many;
                String what = height + " among " + many + ": ";
                CHECK.due(what + "recurrent", x.burn(0, 0), burns ? 1 : 0);
                CHECK.due(what + "rounds", x.burn(0, 1), burns ? Math.min(many, 1) + 1 : 0);
                CHECK.due(what + "its round", x.burn(0, 104), burns ? 1 : NOT);
                for (int side = 0; side < many; side++) {
                    CHECK.due(what + "the round of a side", x.burn(0, 100 + sides[side]), burns ? 2 : NOT);
                }
                int all = 16;
                for (int side = 0; side < many; side++) {
                    all |= 1 << sides[side];
                }
                CHECK.due(what + "what doesn't burn", x.burn(0, 2), burns ? 0 : all);
            }
        }
    }

    /** "had not burnt as it began": what burns in a round doesn't help another in it, whichever comes first */
    private static void asTheRoundBegan() {
        SandGroup x = Sand.of("10");
        x.keep(0);
        CHECK.due("the first", x.burn(0, 100), 1);
        CHECK.due("the second", x.burn(0, 101), 2);
        SandGroup y = Sand.of("0/1");
        y.keep(0);
        CHECK.due("the second", y.burn(0, 101), 1);
        CHECK.due("the first", y.burn(0, 100), 2);
    }

    /** "till a ROUND burns none (that isn't counted)" */
    private static void aRoundOfNoneIsNotCounted() {
        String[] texts = {"0", "00", "10", "11", "0111", "1110", "0000", "2000", "#", "##/##"};
        int[] rounds = {1, 0, 2, 1, 4, 4, 0, 1, 0, 0};
        for (int i = 0; i < texts.length; i++) {
            SandGroup x = Sand.of(texts[i]);
            x.keep(0);
            CHECK.due(texts[i] + " rounds", x.burn(0, 1), rounds[i]);
        }
    }

    /**
     * "till a ROUND burns none": as many ROUNDS as there can be, one for each of 16 PLACES. They
     * burn one behind the other along a way to and fro through the rows, as each is as high as
     * those next to it are many that come later on the way.
     */
    private static void asManyRoundsAsPlaces() {
        int[] way = {0, 1, 2, 3, 7, 6, 5, 4, 8, 9, 10, 11, 15, 14, 13, 12};
        SandGroup x = Sand.of("2221/1222/2221/0111");
        x.keep(0);
        CHECK.due("recurrent", x.burn(0, 0), 1);
        CHECK.due("rounds", x.burn(0, 1), 16);
        CHECK.due("none is left", x.burn(0, 2), 0);
        for (int i = 0; i < 16; i++) {
            CHECK.due("round of " + way[i], x.burn(0, 100 + way[i]), i + 1);
        }
        // one grain less at the last but one: it and the last are left
        x.set(13, 0);
        x.keep(0);
        CHECK.due("not recurrent", x.burn(0, 0), 0);
        CHECK.due("rounds", x.burn(0, 1), 14);
        CHECK.due("two are left", x.burn(0, 2), (1 << 13) + (1 << 12));
    }

    /** "RECURRENT: all burn (also where there is no PLACE: no ROUNDS then)" */
    private static void recurrentWithoutPlace() {
        SandGroup x = Sand.of("#/#");
        CHECK.due("nothing held yet", x.burn(0, 0), EMPTY);
        x.keep(0);
        CHECK.due("recurrent", x.burn(0, 0), 1);
        CHECK.due("no rounds", x.burn(0, 1), 0);
        CHECK.due("none is left", x.burn(0, 2), 0);
        CHECK.due("a wall has no round", x.burn(0, 100), NONE);
        CHECK.due("nought", x.nought(1), 0);
        CHECK.due("order", x.order(0), 1);
        CHECK.due("opposite", x.opposite(2, 0), 0);
        CHECK.due("times", x.times(3, 0, 1000000000), 0);
        CHECK.due("the same", x.one(0, 3), 2);
        CHECK.due("sum", x.sum(4, 0, 1), 0);
        CHECK.due("no place of it", x.pile(0, 0), NONE);
        CHECK.due("load", x.load(0), 0);
    }

    /** "GROUP: how many piles are RECURRENT (1 without a PLACE)" */
    private static void groupWithoutPlace() {
        CHECK.due("one wall", Sand.of("#").group(), 1);
        CHECK.due("walls alone", Sand.of("####/####/####/####").group(), 1);
        CHECK.due("one place among walls", Sand.of("####/####/####/###9").group(), 4);
        CHECK.due("as many as can be", Sand.of("9999/9999/9999/9999").group(), 557568000);
    }

    /** "NOUGHT: the one RECURRENT pile whose SUM with itself is itself": of all stable piles of three places */
    private static void theOneNought() {
        for (String text : new String[] {"000", "0/0/0", "0#/00", "0#0/##0"}) {
            int found = 0;
            for (int code = 0; code < 64; code++) {
                SandGroup x = Sand.of(text);
                int rest = code;
                for (int cell = 0; cell < x.count(0); cell++) {
                    if (x.set(cell, rest % 4) >= 0) {
                        rest /= 4;
                    }
                }
                x.keep(0);
                x.sum(1, 0, 0);
                boolean itself = x.one(0, 1) == 2;
                boolean nought = itself && x.burn(0, 0) == 1;
                found += nought ? 1 : 0;
                x.nought(2);
                CHECK.due(text + " of " + code, x.one(0, 2) == 2 ? 1 : 0, nought ? 1 : 0);
            }
            CHECK.due(text + ": one alone", found, 1);
        }
    }

    /** "TIMES k (0 .. 1000000000) of a pile: the SUM of NOUGHT and k of it (0: NOUGHT)" */
    private static void timesFrom0() {
        for (String text : new String[] {"00", "33", "12/#3", "3333/0000/1#1#/2222"}) {
            SandGroup x = Sand.of(text);
            x.keep(0);
            int grains = x.nought(1);
            CHECK.due(text + " times 0", x.times(2, 0, 0), grains);
            CHECK.due(text + " times 0 is nought", x.one(1, 2), 2);
            x.sum(3, 1, 0);
            CHECK.due(text + " times 1", x.times(2, 0, 1), x.load(3));
            CHECK.due(text + " times 1 is the sum with nought", x.one(2, 3), 2);
            x.sum(3, 3, 0);
            x.times(2, 0, 2);
            CHECK.due(text + " times 2", x.one(2, 3), 2);
            CHECK.due(text + " times -1", x.times(2, 0, -1), BAD);
            CHECK.due(text + " times the least", x.times(2, 0, Integer.MIN_VALUE), BAD);
            CHECK.due(text + " it stays", x.one(2, 3), 2);
            CHECK.due(text + " nought a billion times", x.times(4, 1, 1000000000), grains);
        }
    }

    /** The same, at its upper end: 1 0 is of order 15, one place alone of order 4 */
    private static void timesToABillion() {
        SandGroup x = Sand.of("10");
        x.keep(0);
        int[] most = {1000000000, 999999999, 536870912, 536870911};
        for (int k : most) {
            x.times(1, 0, k);
            x.times(2, 0, k % 15);
            CHECK.due(k + " times", x.one(1, 2), 2);
            x.times(2, 0, k % 15 + 1);
            CHECK.due(k + " times is not one more", x.one(1, 2), 0);
        }
        CHECK.due("a billion and one", x.times(1, 0, 1000000001), BAD);
        CHECK.due("the greatest", x.times(1, 0, Integer.MAX_VALUE), BAD);
        SandGroup y = Sand.of("3");
        y.keep(0);
        CHECK.due("3 times 999999999", y.times(0, 0, 999999999), 1);
    }

    /** "ORDER of a pile: the least k (1 .. 2000) by which TIMES is NOUGHT": never 0 */
    private static void orderFrom1() {
        for (String text : new String[] {"0", "00", "000/0#0/000", "#"}) {
            SandGroup x = Sand.of(text);
            x.keep(0);
            CHECK.due(text + " of no grains", x.order(0), 1);
            x.nought(0);
            CHECK.due(text + " nought", x.order(0), 1);
        }
        SandGroup y = Sand.of("2");
        y.keep(0);
        CHECK.due("two of it", y.order(0), 2);
    }

    /** The same, at its upper end: one pile of order 2000 and one of 2001 */
    private static void orderTo2000() {
        ordered("1221/#2#3/#123/3330", 2000, 2000);
        ordered("0#01/#12#/3#23/2111", 2001, NOT);
    }

    private static void ordered(String text, int order, int answer) {
        SandGroup x = Sand.of(text);
        x.keep(0);
        CHECK.due(text + " order", x.order(0), answer);
        x.nought(1);
        x.times(2, 0, order);
        CHECK.due(text + " times " + order, x.one(1, 2), 2);
        for (int k = 1; k < order; k++) {
            if (order % k == 0) {
                x.times(2, 0, k);
                CHECK.due(text + " times " + k, x.one(1, 2), 0);
            }
        }
    }

    /** "OPPOSITE: the RECURRENT pile whose SUM with it is NOUGHT": also of what isn't RECURRENT, and of NOUGHT itself */
    private static void oppositeIsRecurrent() {
        for (String text : new String[] {"0", "3", "00", "11", "3333/3333/3333/3333", "0000/0#00/00#0/0000", "#0#"}) {
            SandGroup x = Sand.of(text);
            x.keep(0);
            int grains = x.opposite(1, 0);
            CHECK.due(text + " recurrent", x.burn(1, 0), 1);
            x.sum(2, 0, 1);
            int nought = x.nought(3);
            CHECK.due(text + " nought", x.one(2, 3), 2);
            CHECK.due(text + " grains", x.load(1), grains);
            CHECK.due(text + " opposite of nought", x.opposite(4, 3), nought);
            CHECK.due(text + " is nought", x.one(3, 4), 2);
        }
    }

    /** "Whether two PILES are the same (2), else ONE (1), else 0": "ONE, if TIMES 1 of them are the same" */
    private static void sameOrOneOrNeither() {
        // ahead of any call that reckons NOUGHT
        SandGroup y = Sand.of("00");
        y.keep(0);
        y.set(0, 3);
        y.set(1, 3);
        y.keep(1);
        CHECK.due("nothing and nought", y.one(0, 1), 1);
        SandGroup x = Sand.of("00");
        x.keep(0);
        x.keep(1);
        x.nought(2);
        x.set(1, 1);
        x.keep(3);
        x.times(4, 3, 1);
        x.times(5, 3, 16);
        CHECK.due("the same, not recurrent", x.one(0, 1), 2);
        CHECK.due("itself", x.one(0, 0), 2);
        CHECK.due("nothing and nought", x.one(0, 2), 1);
        CHECK.due("nought and nothing", x.one(2, 0), 1);
        CHECK.due("a grain and nothing", x.one(3, 0), 0);
        CHECK.due("a grain and nought", x.one(3, 2), 0);
        CHECK.due("a grain is recurrent: times 1 is itself", x.one(3, 4), 2);
        CHECK.due("sixteen of it", x.one(3, 5), 2);
    }

    /** "A PILE holds HEIGHTS, SETTLED in thought: SIZE" */
    private static void keepSettlesInThought() {
        SandGroup x = Sand.of(2, 2, 3, 3, 3, 3);
        CHECK.due("stable", x.keep(0), 0);
        x.set(0, 4);
        int size = x.settled(0);
        CHECK.holds("not stable", size > 0);
        CHECK.due("keep", x.keep(0), size);
        CHECK.holds("heights stay", Sand.show(x).equals("4 3/3 3"));
        for (int cell = 0; cell < 4; cell++) {
            CHECK.due("settled", x.pile(0, cell), x.settled(200 + cell));
        }
        SandGroup y = Sand.of("9999/9999/9999/9999");
        for (int cell = 0; cell < 16; cell++) {
            y.set(cell, 999);
        }
        CHECK.due("as many as can be", y.keep(5), 19256);
    }

    /** "HEIGHTS truly become those of a PILE: grains" */
    private static void loadTellsGrains() {
        SandGroup x = Sand.of("00/#0");
        x.keep(0);
        x.set(0, 3);
        x.set(1, 3);
        x.set(3, 3);
        x.keep(5);
        CHECK.due("none", x.load(0), 0);
        CHECK.holds("none are there", Sand.show(x).equals("0 0/# 0"));
        CHECK.due("all", x.load(5), 9);
        CHECK.holds("all are there", Sand.show(x).equals("3 3/# 3"));
        CHECK.due("grains", x.count(3), 9);
        x.set(0, 0);
        CHECK.due("the pile stays", x.pile(5, 0), 3);
    }

    /** "HEIGHT of a PLACE in a PILE. NONE: pile, no PLACE; EMPTY." */
    private static void pileOfNoPlace() {
        SandGroup x = Sand.of("1#/32");
        x.keep(3);
        int[] due = {1, NONE, 3, 2};
        for (int cell = 0; cell < 4; cell++) {
            CHECK.due("pile(3, " + cell + ")", x.pile(3, cell), due[cell]);
            CHECK.due("pile(4, " + cell + ")", x.pile(4, cell), cell == 1 ? NONE : EMPTY);
        }
        for (int cell : new int[] {-1, 4, Integer.MIN_VALUE, Integer.MAX_VALUE}) {
            CHECK.due("pile(3, " + cell + ")", x.pile(3, cell), NONE);
            CHECK.due("NONE is named first", x.pile(4, cell), NONE);
        }
    }

    /** "A PILE becomes .. of another one", "the SUM of two": what is read may be what is written */
    private static void sumOntoItself() {
        SandGroup x = Sand.of("12/#3");
        x.keep(0);
        x.keep(1);
        x.keep(2);
        x.sum(3, 0, 0);
        x.sum(0, 0, 0);
        CHECK.due("sum", x.one(0, 3), 2);
        x.times(3, 1, 5);
        x.times(1, 1, 5);
        CHECK.due("times", x.one(1, 3), 2);
        x.opposite(3, 2);
        x.opposite(2, 2);
        CHECK.due("opposite", x.one(2, 3), 2);
    }

    /** "what 0 .. 1 .. 2 .., 100 and cell": all others NONE */
    private static void burnNames() {
        SandGroup x = Sand.of("2#/33");
        x.keep(0);
        for (int what = -2; what <= 118; what++) {
            boolean is = (what >= 0 && what <= 2) || what == 100 || what == 102 || what == 103;
            CHECK.due("burn(0, " + what + ")", x.burn(0, what) == NONE ? 0 : 1, is ? 1 : 0);
            CHECK.due("burn(1, " + what + ")", x.burn(1, what), is ? EMPTY : NONE);
        }
        for (int far : new int[] {Integer.MIN_VALUE, Integer.MIN_VALUE + 100, 200, 203, Integer.MAX_VALUE}) {
            CHECK.due("burn(0, " + far + ")", x.burn(0, far), NONE);
        }
    }

    /** "for 6 PLACES at most. STATE: there are more." */
    private static void throughSixPlaces() {
        SandGroup x = Sand.of("####/####/####/####");
        int[] apart = {0, 2, 5, 7, 8, 10};
        int many = 1;
        CHECK.due("no place", x.through(), 1);
        for (int cell : apart) {
            x.wall(cell, false);
            many *= 4;
            CHECK.due(x.count(2) + " places", x.through(), many);
            CHECK.due(x.count(2) + " places: group", x.group(), many);
        }
        x.wall(15, false);
        CHECK.due("seven places", x.through(), STATE);
        x.wall(0, true);
        CHECK.due("six places", x.through(), 4096);
        CHECK.due("six in a grid of six", Sand.of("000/000").through(), 2415);
        CHECK.due("sixteen", Sand.of("0000/0000/0000/0000").through(), STATE);
    }

    /** GROUP, NOUGHT and the rest are of the grid that is, whatever was reckoned of another one ahead. */
    private static void groupBehindAGreaterGrid() {
        SandGroup x = Sand.of("0000/0000/0000/0000");
        x.group();
        x.nought(0);
        CHECK.due("1 by 2", x.size(1, 2), 16);
        CHECK.due("group", x.group(), 15);
        CHECK.due("nought", x.nought(0), 6);
        CHECK.due("through", x.through(), 15);
        x.size(4, 4);
        CHECK.due("4 by 4", x.group(), 557568000);
        CHECK.due("nought", x.nought(0), 40);
        // of a text as well: what stood beside the lesser grid is gone
        SandGroup w = Sand.of("9999/9999/9#99/9999");
        Sand.readAll(w, "10");
        w.keep(0);
        CHECK.due("1 0", w.order(0), 15);
        w.times(1, 0, 15);
        w.nought(2);
        CHECK.due("fifteen of it", w.one(1, 2), 2);
        // what the walls held ahead is gone: piles with walls there are the same
        SandGroup y = Sand.of("99/99");
        Sand.readAll(y, "1#/11");
        y.keep(0);
        SandGroup z = Sand.of("1#/11");
        z.keep(0);
        CHECK.due("order", y.order(0), z.order(0));
        y.times(1, 0, y.order(0));
        y.nought(2);
        CHECK.due("nought", y.one(1, 2), 2);
        CHECK.due("grains", y.count(3), 3);
    }
}
