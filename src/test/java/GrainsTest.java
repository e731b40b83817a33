import java.util.HashMap;
import java.util.LinkedHashMap;
import java.util.Map;

/** Promises 27 to 29: grains. */
public final class GrainsTest {
    private static final Check CHECK = new Check("GrainsTest");
    private static final int NONE = SandGroup.NONE, BAD = SandGroup.BAD, NOT = SandGroup.NOT, STATE = SandGroup.STATE;

    public static void main(String[] args) {
        avalanche();
        avalancheWithWalls();
        avalancheRefuses();
        again();
        againAtTheLimit();
        againRefuses();
        lotsByHand();
        lotsOfOnePlace();
        lotsSettlesFirst();
        lotsRefuses();
        CHECK.end();
    }

    private static void fallen(SandGroup x, int cell, int size, int area, int lost, int rounds) {
        CHECK.due("SIZE", x.avalanche(cell, 0), size);
        CHECK.due("AREA", x.avalanche(cell, 1), area);
        CHECK.due("LOST", x.avalanche(cell, 2), lost);
        CHECK.due("ROUNDS", x.avalanche(cell, 3), rounds);
    }

    private static void avalanche() {
        SandGroup x = Sand.of("333");
        // 3 4 3 -> 4 0 4 -> 0 2 0
        fallen(x, 1, 3, 7, 2 + 3 + 3, 2);
        // 4 3 3 -> 0 4 3 -> 1 0 4 -> 1 1 0
        fallen(x, 0, 3, 7, 3 + 2 + 3, 3);
        x.set(1, 2);
        fallen(x, 1, 0, 0, 0, 0);
        fallen(x, 2, 1, 4, 3, 1);
        CHECK.holds("in thought", Sand.show(x).equals("3 2 3"));
        CHECK.due("no change", x.count(7), 1);
        // all 3 in 2 by 2: 4 3 / 3 3 -> 0 4 / 4 3 -> 2 0 / 0 5 -> 2 1 / 1 1
        fallen(Sand.of("33/33"), 0, 4, 15, 8, 3);
        // the middle of 3 by 3 topples more than once: 4, then its nexts, then again
        SandGroup z = Sand.of("030/333/030");
        // round 1: the middle; round 2: its four nexts; round 3: the middle again, which has 4
        fallen(z, 4, 6, 2 + 8 + 16 + 32 + 128, 4, 3);
    }

    private static void avalancheWithWalls() {
        SandGroup x = Sand.of("#3/33");
        // cell 3 has 1 and 2 next to it; these have none but it
        fallen(x, 3, 3, 2 + 4 + 8, 2 + 3 + 3, 2);
        CHECK.due("a wall", x.avalanche(0, 0), NONE);
    }

    private static void avalancheRefuses() {
        SandGroup x = Sand.of("34");
        CHECK.due("state", x.avalanche(0, 0), STATE);
        CHECK.due("NONE first", x.avalanche(0, 4), NONE);
        CHECK.due("NONE first", x.avalanche(2, 0), NONE);
        x.set(1, 3);
        CHECK.due("what", x.avalanche(0, -1), NONE);
        CHECK.due("what", x.avalanche(0, 4), NONE);
        CHECK.due("cell", x.avalanche(-1, 0), NONE);
        CHECK.due("cell", x.avalanche(2, 0), NONE);
    }

    private static void came(String text, int cell, int length, int ahead) {
        SandGroup x = Sand.of(text);
        CHECK.due(text + " LENGTH", x.again(cell, 0), length);
        CHECK.due(text + " AHEAD", x.again(cell, 1), ahead);
    }

    private static void again() {
        came("0", 0, 4, 0);
        came("3", 0, 4, 0);
        came("9", 0, 4, 0);
        came("0#0", 2, 4, 0);
        // 0 0 .. 3 0, 0 1 .. 3 1, 0 2 .. 3 2, 0 3 .. 3 3, then 4 3 -> 0 4 -> 1 0: behind 1 grain
        came("00", 0, 15, 1);
        came("30", 0, 15, 0);
        came("00", 1, 15, 1);
        // the 2000th grain is the last that is tried
        came("21##/0030/1#0#/0#02", 4, 1976, 24);
        came("10##/0200/0#1#/2#01", 4, NOT, NOT);
        SandGroup late = Sand.of("10##/0200/0#1#/2#01");
        late.drop(4, 1);
        late.settle();
        CHECK.due("a grain later it would come", late.again(4, 1), 24);
        SandGroup x = Sand.of(1, 2, 0, 40);
        x.again(0, 0);
        CHECK.holds("in thought", Sand.show(x).equals("0 40"));
    }

    /** How soon it comes again, by true drops and settlings. */
    private static void againAtTheLimit() {
        String[] grids = {"0000", "0000/0000", "000/000/000", "000/0#0/000", "00/00/00"};
        for (String grid : grids) {
            for (int cell = 0; cell < 3; cell++) {
                SandGroup x = Sand.of(grid);
                String heights = grid;
                HashMap<String, Integer> seen = new HashMap<>();
                seen.put(heights, 0);
                int length = NOT;
                int ahead = NOT;
                for (int k = 1; k <= 2000 && length == NOT; k++) {
                    heights = grained(heights, cell);
                    Integer was = seen.put(heights, k);
                    if (was != null) {
                        length = k - was;
                        ahead = was;
                    }
                }
                CHECK.due(grid + " again", x.again(cell, 0), length);
                CHECK.due(grid + " again", x.again(cell, 1), ahead);
            }
        }
    }

    /** A grain dropped and settled, by an object of its own: one object's calls are too few for 2000 grains. */
    private static String grained(String heights, int cell) {
        SandGroup x = Sand.of(heights);
        x.drop(cell, 1);
        x.settle();
        return Sand.show(x).replace(" ", "");
    }

    private static void againRefuses() {
        SandGroup x = Sand.of("0000/0000/0000/0000");
        CHECK.due("not within 2000", x.again(5, 0), NOT);
        CHECK.due("not within 2000", x.again(5, 1), NOT);
        CHECK.due("what", x.again(5, 2), NONE);
        CHECK.due("what", x.again(5, -1), NONE);
        CHECK.due("cell", x.again(16, 0), NONE);
        CHECK.due("cell", x.again(-1, 0), NONE);
        x.wall(5, true);
        CHECK.due("wall", x.again(5, 0), NONE);
    }

    /** With grains on a wide empty grid nothing topples: only where they fall tells. */
    private static void lotsByHand() {
        // z: 1 -> 1103527590, by 65536: 16838, modulo 4: 2; -> 377401575 + ..: see below by longs
        int[] seeds = {0, 1, 7, -1, Integer.MAX_VALUE, Integer.MIN_VALUE, 123456789};
        String[] grids = {"3#33", "333/333/333", "3333/3#33/33#3/3333", "#0/12"};
        for (String grid : grids) {
            for (int seed : seeds) {
                lotsTruly(grid, seed, 200);
                lotsTruly(grid, seed, 1);
                lotsTruly(grid, seed, 37);
            }
        }
    }

    private static void lotsTruly(String grid, int seed, int n) {
        SandGroup x = Sand.of(grid);
        String heights = grid;
        LinkedHashMap<Integer, Integer> sizes = new LinkedHashMap<>();
        long z = seed & 0xFFFFFFFFL;
        int lost = 0;
        int together = 0;
        int greatest = 0;
        for (int k = 0; k < n; k++) {
            z = (z * 1103515245L + 12345L) & 0xFFFFFFFFL;
            SandGroup y = Sand.of(heights);
            int cell = placeAt(y, (int) ((z % 2147483648L) / 65536L % y.count(2)));
            lost += y.avalanche(cell, 2);
            y.drop(cell, 1);
            int size = y.settle();
            heights = Sand.show(y).replace(" ", "");
            together += size;
            greatest = Math.max(greatest, size);
            sizes.merge(size, 1, Integer::sum);
        }
        String call = grid + " lots(" + seed + ", " + n + ") ";
        CHECK.due(call + 0, x.lots(seed, n, 0), lost);
        CHECK.due(call + 1, x.lots(seed, n, 1), together);
        CHECK.due(call + 2, x.lots(seed, n, 2), greatest);
        CHECK.due(call + 3, x.lots(seed, n, 3), sizes.size());
        int i = 0;
        for (Map.Entry<Integer, Integer> entry : sizes.entrySet()) {
            CHECK.due(call + (100 + i), x.lots(seed, n, 100 + i), entry.getKey());
            CHECK.due(call + (400 + i), x.lots(seed, n, 400 + i), entry.getValue());
            i++;
        }
        CHECK.due(call + "no more sizes", x.lots(seed, n, 100 + i), NOT);
        CHECK.due(call + "no more sizes", x.lots(seed, n, 400 + i), NOT);
    }

    /** The cell of the place of that number. */
    private static int placeAt(SandGroup x, int number) {
        int left = number;
        for (int cell = 0; cell < x.count(0); cell++) {
            if (x.height(cell) >= 0) {
                if (left == 0) {
                    return cell;
                }
                left--;
            }
        }
        return NONE;
    }

    private static void lotsOfOnePlace() {
        SandGroup x = Sand.of("#2#");
        // grains 3, 4 -> 0, 1, 2, 3, 4 -> 0: of six, two topple
        CHECK.due("LOST", x.lots(5, 6, 0), 8);
        CHECK.due("SIZES", x.lots(5, 6, 1), 2);
        CHECK.due("greatest", x.lots(5, 6, 2), 1);
        CHECK.due("unlike", x.lots(5, 6, 3), 2);
        CHECK.due("first", x.lots(5, 6, 100), 0);
        CHECK.due("second", x.lots(5, 6, 101), 1);
        CHECK.due("how often", x.lots(5, 6, 400), 4);
        CHECK.due("how often", x.lots(5, 6, 401), 2);
        CHECK.due("no third", x.lots(5, 6, 102), NOT);
        CHECK.due("no third", x.lots(5, 6, 402), NOT);
        CHECK.due("in thought", x.height(1), 2);
    }

    private static void lotsSettlesFirst() {
        SandGroup x = Sand.of("0");
        x.set(0, 402);
        CHECK.due("LOST but what was lost first", x.lots(5, 2, 0), 4);
        CHECK.due("SIZES", x.lots(5, 2, 1), 1);
        CHECK.due("greatest", x.lots(5, 2, 2), 1);
        CHECK.due("in thought", x.height(0), 402);
    }

    private static void lotsRefuses() {
        SandGroup x = Sand.of("00");
        int[] wrong = {-1, 4, 50, 99, Integer.MIN_VALUE};
        for (int what : wrong) {
            CHECK.due("what " + what, x.lots(1, 5, what), NONE);
            CHECK.due("NONE first", x.lots(1, 0, what), NONE);
        }
        CHECK.due("n", x.lots(1, 0, 0), BAD);
        CHECK.due("n", x.lots(1, -1, 0), BAD);
        CHECK.due("n", x.lots(1, 201, 100), BAD);
        int[] far = {399, 699, 700, 1000, Integer.MAX_VALUE};
        for (int what : far) {
            CHECK.due("no such size " + what, x.lots(1, 5, what), NOT);
        }
        SandGroup y = Sand.of("#");
        CHECK.due("no place", y.lots(1, 5, 0), STATE);
        CHECK.due("no place", y.lots(1, 5, 100), STATE);
        CHECK.due("BAD before STATE", y.lots(1, 0, 0), BAD);
        CHECK.due("NONE before STATE", y.lots(1, 1, 4), NONE);
    }
}
