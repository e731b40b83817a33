/** Promises 25 and 26: burning. */
public final class BurningTest {
    private static final Check CHECK = new Check("BurningTest");
    private static final int NONE = SandGroup.NONE, NOT = SandGroup.NOT, EMPTY = SandGroup.EMPTY, STATE = SandGroup.STATE;

    public static void main(String[] args) {
        roundsByHand();
        withWalls();
        whereThereIsNoPlace();
        burnRefuses();
        through();
        CHECK.end();
    }

    private static void burnt(String text, int recurrent, int rounds, int left, int... roundOf) {
        SandGroup x = Sand.of(text);
        x.keep(0);
        CHECK.due(text + " recurrent", x.burn(0, 0), recurrent);
        CHECK.due(text + " rounds", x.burn(0, 1), rounds);
        CHECK.due(text + " left", x.burn(0, 2), left);
        for (int cell = 0; cell < roundOf.length; cell++) {
            CHECK.due(text + " round of " + cell, x.burn(0, 100 + cell), roundOf[cell]);
        }
        CHECK.holds("nothing is otherwise", x.count(7) == 0 && x.count(4) == 1);
    }

    private static void roundsByHand() {
        burnt("3", 1, 1, 0, 1);
        burnt("0", 1, 1, 0, 1);
        burnt("00", 0, 0, 3, NOT, NOT);
        burnt("10", 1, 2, 0, 1, 2);
        burnt("11", 1, 1, 0, 1, 1);
        burnt("123", 1, 1, 0, 1, 1, 1);
        burnt("022", 1, 2, 0, 2, 1, 1);
        burnt("012", 1, 3, 0, 3, 2, 1);
        burnt("000", 0, 0, 7, NOT, NOT, NOT);
        // the corners have 2 nexts, the sides 3, the middle 4
        burnt("222/121/222", 1, 3, 0, 1, 2, 1, 2, 3, 2, 1, 2, 1);
        burnt("200/000/000", 0, 1, 510, 1, NOT, NOT);
    }

    private static void withWalls() {
        // the ends burn; below the wall each has one more unburnt than it has grains
        burnt("1#1/000", 0, 1, 8 + 16 + 32, 1, NONE, 1, NOT, NOT, NOT);
        burnt("0#0/121", 1, 3, 0, 3, NONE, 3, 2, 1, 2);
        burnt("0#0/111", 0, 0, 61, NOT, NONE, NOT, NOT, NOT, NOT);
        burnt("#3#", 1, 1, 0, NONE, 1, NONE);
    }

    private static void whereThereIsNoPlace() {
        burnt("##", 1, 0, 0, NONE, NONE);
    }

    private static void burnRefuses() {
        SandGroup x = Sand.of("1#");
        CHECK.due("empty", x.burn(0, 0), EMPTY);
        CHECK.due("empty", x.burn(5, 100), EMPTY);
        CHECK.due("NONE first", x.burn(0, 3), NONE);
        CHECK.due("NONE first", x.burn(0, 101), NONE);
        x.keep(0);
        CHECK.due("no pile", x.burn(6, 0), NONE);
        CHECK.due("no pile", x.burn(-1, 0), NONE);
        int[] wrong = {-1, 3, 99, 101, 102, 116, 200, Integer.MIN_VALUE, Integer.MAX_VALUE};
        for (int what : wrong) {
            CHECK.due("burn(0, " + what + ")", x.burn(0, what), NONE);
        }
    }

    private static void through() {
        String[] grids = {"#", "0", "00", "0#0", "000", "0000", "00/00", "000/0#0", "000/000", "00/00/00",
            "0#0#/#0#0/0#0#", "0###/#00#/00##/###0"};
        int[] due = {1, 4, 15, 16, 56, 209, 192, 780, 2415, 2415, 4096, -1};
        for (int i = 0; i < grids.length; i++) {
            SandGroup x = Sand.of(grids[i]);
            if (due[i] >= 0) {
                CHECK.due("through of " + grids[i], x.through(), due[i]);
            }
            CHECK.due("as many as the group of " + grids[i], x.through(), x.group());
        }
        CHECK.due("seven places", Sand.of("0000/000#").through(), STATE);
        CHECK.due("nine places", new SandGroup().through(), STATE);
        SandGroup y = Sand.of(2, 3, 500, 6, 7, 8, 9, 10);
        CHECK.due("heights don't matter", y.through(), 2415);
        CHECK.holds("nor are they changed", Sand.show(y).equals("500 6 7/8 9 10"));
    }
}
