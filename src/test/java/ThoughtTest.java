/** Promises 12 to 14: toppling in thought. */
public final class ThoughtTest {
    private static final Check CHECK = new Check("ThoughtTest");
    private static final int NONE = SandGroup.NONE, NOT = SandGroup.NOT;

    public static void main(String[] args) {
        settledByHand();
        settledWithWalls();
        settledRefuses();
        thoughtChangesNothing();
        ordersByHand();
        ordersWithWalls();
        ordersAgreeOnCounts();
        traceRefuses();
        common();
        CHECK.end();
    }

    private static void settledByHand() {
        // 4 7: both topple: 1 4; then 2 0
        SandGroup x = Sand.of(1, 2, 4, 7);
        CHECK.due("SIZE", x.settled(0), 3);
        CHECK.due("LOST", x.settled(1), 9);
        CHECK.due("ROUNDS", x.settled(2), 2);
        CHECK.due("bits", x.settled(3), 3);
        CHECK.due("left", x.settled(4), 2);
        CHECK.due("COUNT 0", x.settled(100), 1);
        CHECK.due("COUNT 1", x.settled(101), 2);
        CHECK.due("HEIGHT 0", x.settled(200), 2);
        CHECK.due("HEIGHT 1", x.settled(201), 0);
        CHECK.due("no COUNT 2", x.settled(102), NONE);
        CHECK.due("no HEIGHT 2", x.settled(202), NONE);
    }

    private static void settledWithWalls() {
        // the wall swallows: 8 # 3 / 3 0 4 -> each part on its own
        SandGroup x = Sand.of("8#3/304");
        // cell 0: 8 -> 0, twice; cell 3: 3 + 2 = 5 -> 1; cell 0 is 1 then, cell 4 has 1;
        // cell 5: 4 -> 0; cell 2: 4 -> 0; cell 4: 2; cell 5: 1
        CHECK.due("SIZE", x.settled(0), 5);
        CHECK.due("bits by cells", x.settled(3), 1 + 4 + 8 + 32);
        CHECK.due("LOST", x.settled(1), 2 * 3 + 2 + 3 + 2);
        CHECK.due("left", x.settled(4), 5);
        CHECK.due("COUNT 0", x.settled(100), 2);
        CHECK.due("COUNT of a wall", x.settled(101), NONE);
        CHECK.due("HEIGHT of a wall", x.settled(201), NONE);
        CHECK.due("COUNT 4", x.settled(104), 0);
        CHECK.due("HEIGHT 0", x.settled(200), 1);
        CHECK.due("HEIGHT 4", x.settled(204), 2);
        CHECK.due("HEIGHT 5", x.settled(205), 1);
        // round 1: 0 and 5; round 2: 0, 2 and 3; then none
        CHECK.due("ROUNDS", x.settled(2), 2);
    }

    private static void settledRefuses() {
        SandGroup x = new SandGroup();
        int[] wrong = {-1, 5, 99, 109, 116, 199, 209, 216, 300, Integer.MIN_VALUE, Integer.MIN_VALUE + 100,
            Integer.MIN_VALUE + 200, Integer.MAX_VALUE};
        for (int what : wrong) {
            CHECK.due("settled(" + what + ")", x.settled(what), NONE);
        }
        for (int what = 0; what <= 3; what++) {
            CHECK.due("stable: settled(" + what + ")", x.settled(what), 0);
        }
    }

    private static void thoughtChangesNothing() {
        SandGroup x = Sand.of(2, 2, 40, 41, 42, 43);
        x.undo();
        for (int what = 0; what < 5; what++) {
            x.settled(what);
        }
        x.trace(1, 5);
        x.common(2, 3);
        CHECK.holds("heights stay", Sand.show(x).equals("40 41/42 0"));
        CHECK.due("changes stay", x.count(7), 3);
        CHECK.due("changes stay", x.count(8), 1);
    }

    private static void ordersByHand() {
        // three in a row: 8 3 8
        SandGroup x = Sand.of(1, 3, 8, 3, 8);
        // LEAST: 0 -> 4 4 8, 0 -> 0 5 8, 1 -> 1 1 9, 2 -> 1 2 5, 2 -> 1 3 1
        Sand.traced(CHECK, "by hand", x, 0, 0, 0, 1, 2, 2);
        // QUEUE: row 0 2; 0 -> 4 4 8, row 2 1 0; 2 -> 4 5 4, row 1 0 2;
        // 1 -> 5 1 5, row 0 2; 0 -> 1 2 5, row 2; 2 -> 1 3 1
        Sand.traced(CHECK, "by hand", x, 1, 0, 2, 1, 0, 2);
        // STACK: row 0 2; 2 -> 8 4 4, row 0 1 2; 2 -> 8 5 0, row 0 1;
        // 1 -> 9 1 1, row 0; 0 -> 5 2 1, row 0; 0 -> 1 3 1
        Sand.traced(CHECK, "by hand", x, 2, 2, 2, 1, 0, 0);
        // TALLEST: 0 -> 4 4 8; 2 -> 4 5 4; 1 -> 5 1 5; 0 -> 1 2 5; 2 -> 1 3 1
        Sand.traced(CHECK, "by hand", x, 3, 0, 2, 1, 0, 2);
        // the nexts come in their order: above, left, right, below, and itself last
        SandGroup y = Sand.of(3, 3, 0, 3, 0, 3, 8, 3, 0, 3, 0);
        int[] first = {4, 1, 3, 5, 7, 4};
        for (int i = 0; i < first.length; i++) {
            CHECK.due("QUEUE about the middle", y.trace(1, i), first[i]);
        }
        int[] last = {4, 4, 7, 5, 3, 1, 4};
        for (int i = 0; i < last.length; i++) {
            CHECK.due("STACK about the middle", y.trace(2, i), last[i]);
        }
    }

    private static void ordersWithWalls() {
        SandGroup x = Sand.of("#4/49");
        // LEAST: 1 -> # 0 / 4 10; 2 -> 0 11; 3 -> # 1 / 1 7; 3 -> # 2 / 2 3
        Sand.traced(CHECK, "by hand", x, 0, 1, 2, 3, 3);
        // TALLEST: 3 -> # 5 / 5 5; 1 -> # 1 / 5 6; 3 -> # 2 / 6 2; 2 -> # 2 / 2 3
        Sand.traced(CHECK, "by hand", x, 3, 3, 1, 3, 2);
        Sand.traced(CHECK, "no place", Sand.of("#"), 1);
    }

    private static void ordersAgreeOnCounts() {
        for (int order = 0; order < 4; order++) {
            // an object for each order: its calls are not too many then
            SandGroup x = Sand.of("9#99/9999/99#9/9999");
            x.set(0, 60);
            int[] counts = new int[16];
            int size = x.settled(0);
            for (int i = 0; i < size; i++) {
                counts[x.trace(order, i)]++;
            }
            CHECK.due("the end of order " + order, x.trace(order, size), NOT);
            for (int cell = 0; cell < 16; cell++) {
                if (x.height(cell) >= 0) {
                    CHECK.due("COUNT of " + cell + " by order " + order, counts[cell], x.settled(100 + cell));
                }
            }
        }
    }

    private static void traceRefuses() {
        SandGroup x = Sand.of("44");
        CHECK.due("no order", x.trace(-1, 0), NONE);
        CHECK.due("no order", x.trace(4, 0), NONE);
        CHECK.due("NONE first", x.trace(4, -1), NONE);
        CHECK.due("below 0", x.trace(0, -1), NOT);
        CHECK.due("far", x.trace(0, Integer.MAX_VALUE), NOT);
        CHECK.due("far below", x.trace(3, Integer.MIN_VALUE), NOT);
    }

    private static void common() {
        SandGroup x = Sand.of(1, 3, 8, 3, 8);
        CHECK.due("0 0 1 2 2 and 0 2 1 0 2", x.common(0, 1), 3);
        CHECK.due("0 0 1 2 2 and 2 2 1 0 0", x.common(0, 2), 1);
        CHECK.due("QUEUE as TALLEST", x.common(1, 3), 5);
        CHECK.due("with itself", x.common(2, 2), 5);
        CHECK.due("none", x.common(0, 4), NONE);
        CHECK.due("none", x.common(4, 0), NONE);
        CHECK.due("none", x.common(-1, 0), NONE);
        CHECK.due("stable", new SandGroup().common(0, 1), 0);
        SandGroup y = Sand.of(1, 1, 239);
        CHECK.due("59 places", y.common(0, 1), 59);
        y.set(0, 240);
        CHECK.due("60 places", y.common(0, 1), 60);
        y.set(0, 244);
        CHECK.due("of the first 60", y.common(0, 1), 60);
    }
}
