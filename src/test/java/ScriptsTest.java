/** Promises 30 to 35: scripts and lists. */
public final class ScriptsTest {
    private static final Check CHECK = new Check("ScriptsTest");
    private static final int NONE = SandGroup.NONE, BAD = SandGroup.BAD, NOT = SandGroup.NOT;
    private static final int NOTHING = -11, BEYOND = -13, BELOW = -14;
    private static final long NO = SandGroup.NO;

    public static void main(String[] args) {
        judge();
        steadies();
        steadiesWithWalls();
        steadiesAtTheEdges();
        film();
        list();
        put();
        CHECK.end();
    }

    private static void judged(SandGroup x, int due, int... script) {
        Sand.fillList(x, 2, script);
        CHECK.due("judge " + java.util.Arrays.toString(script), x.judge(2), due);
    }

    private static void judge() {
        SandGroup x = Sand.of("4#/33");
        CHECK.due("nothing", x.judge(0), NOTHING);
        CHECK.due("none", x.judge(4), NONE);
        CHECK.due("none", x.judge(-1), NONE);
        judged(x, NOT);
        judged(x, NOT, 0);
        judged(x, NOT, 0, 2);
        judged(x, NOT, 0, 2, 3);
        judged(x, 3, 0, 2, 3, 3);
        judged(x, 1, 0, 0);
        judged(x, 0, 2);
        judged(x, 0, 1);
        judged(x, 1, 0, 1);
        judged(x, 1, 0, 4);
        judged(x, 1, 0, -1);
        judged(x, 0, Integer.MIN_VALUE);
        judged(x, 0, Integer.MAX_VALUE);
        CHECK.holds("in thought", Sand.show(x).equals("4 #/3 3"));
        CHECK.due("no change", x.count(7), 0);
        x.set(0, 999);
        int[] long40 = new int[40];
        judged(x, NOT, long40);
        x.set(0, 159);
        judged(x, 39, long40);
    }

    private static void told(SandGroup x, int due, int... row) {
        Sand.fillList(x, 1, row);
        CHECK.due("steadies " + java.util.Arrays.toString(row), x.steadies(1), due);
    }

    private static void steadies() {
        SandGroup x = Sand.of("47");
        CHECK.due("nothing", x.steadies(0), NOTHING);
        CHECK.due("none", x.steadies(4), NONE);
        CHECK.due("none", x.steadies(-1), NONE);
        told(x, 0);
        told(x, 1, 1);
        told(x, 0, 0, 0);
        // 4 - 4 + 2 = 2, 7 - 8 + 1 = 0
        told(x, NOT, 1, 2);
        // 4 - 4 + 1 = 1, 7 - 4 + 1 = 4
        told(x, 1, 1, 1);
        // 4 - 4 + 4 = 4
        told(x, 0, 1, 4);
        told(x, NOT, 1, 2, -5);
        told(x, NOT, 1, 2, 5000000, 7);
        CHECK.holds("in thought", Sand.show(x).equals("4 7"));
    }

    private static void steadiesWithWalls() {
        // places 0, 2, 3, 5 are told as 0, 1, 2, 3
        SandGroup x = Sand.of("3#3/3#9");
        told(x, 3, 0, 0, 0, 0);
        // 3 + 1 = 4 above it
        told(x, 1, 0, 0, 0, 1);
        told(x, 3, 0, 0, 0);
        told(x, 2, 0, 0);
        told(x, 2, 0, 0, -1, 0);
        told(x, 1, 0, 0, 0, 2);
        // 3 - 4 + 2 = 1, 9 - 8 + 1 = 2
        told(x, NOT, 0, 1, 0, 2);
        SandGroup y = Sand.of("#");
        told(y, NOT);
        told(y, NOT, -1);
    }

    private static void steadiesAtTheEdges() {
        SandGroup x = Sand.of("99");
        told(x, NOT, 1000000, 1000000);
        told(x, 0, 1000001, 1000000);
        told(x, 1, 1000000, 1000001);
        told(x, 1, 1000000, Integer.MAX_VALUE);
        told(x, 1, 1000000, Integer.MIN_VALUE);
        // what is not told comes ahead of what comes out above 3
        told(x, 1, 0, -1);
        told(x, 1, 0);
        told(x, 0, -1);
    }

    private static void film() {
        SandGroup x = Sand.of("8#3/304");
        CHECK.due("none", x.film(4), NONE);
        CHECK.due("none", x.film(-1), NONE);
        CHECK.due("film", x.film(3), 5);
        int[] counts = {2, 1, 1, 0, 1};
        for (int i = 0; i < counts.length; i++) {
            CHECK.due("COUNT " + i, x.get(3, i), counts[i]);
        }
        CHECK.due("no more", x.get(3, 5), NO);
        CHECK.due("it steadies", x.steadies(3), NOT);
        CHECK.holds("in thought", Sand.show(x).equals("8 # 3/3 0 4"));
        CHECK.due("no change", x.count(7), 0);
        SandGroup y = Sand.of("#");
        CHECK.due("no place", y.film(0), 0);
        CHECK.due("an empty row is held", y.judge(0), NOT);
        CHECK.due("no place of it", y.get(0, 0), NO);
        Sand.fillList(x, 0, 9, 9, 9, 9, 9, 9, 9);
        CHECK.due("film over a row", x.film(0), 5);
        CHECK.due("its length", x.get(0, 5), NO);
        CHECK.due("beyond", x.put(0, 5, 1), BEYOND);
    }

    private static void list() {
        SandGroup x = new SandGroup();
        CHECK.due("none", x.list(4, 1), NONE);
        CHECK.due("none", x.list(-1, 1), NONE);
        CHECK.due("NONE first", x.list(4, 41), NONE);
        CHECK.due("bad", x.list(0, 41), BAD);
        CHECK.due("bad", x.list(0, Integer.MAX_VALUE), BAD);
        CHECK.due("below", x.list(0, -1), BELOW);
        CHECK.due("below", x.list(0, Integer.MIN_VALUE), BELOW);
        CHECK.due("nothing held", x.put(0, 0, 0), NOTHING);
        CHECK.due("forty", x.list(0, 40), 1);
        CHECK.due("last", x.put(0, 39, 5), 1);
        CHECK.due("beyond", x.put(0, 40, 5), BEYOND);
        CHECK.due("refused", x.list(0, 41), BAD);
        CHECK.due("as it was", x.get(0, 39), 5);
        CHECK.due("anew", x.list(0, 40), 1);
        CHECK.due("all 0", x.get(0, 39), 0);
        CHECK.due("no ints", x.list(0, 0), 1);
        CHECK.due("beyond", x.put(0, 0, 5), BEYOND);
        CHECK.due("no place", x.get(0, 0), NO);
    }

    private static void put() {
        SandGroup x = new SandGroup();
        x.list(3, 2);
        CHECK.due("put", x.put(3, 0, Integer.MIN_VALUE), 1);
        CHECK.due("put", x.put(3, 1, Integer.MAX_VALUE), 1);
        CHECK.due("get", x.get(3, 0), Integer.MIN_VALUE);
        CHECK.due("get", x.get(3, 1), Integer.MAX_VALUE);
        CHECK.due("none", x.put(4, 0, 0), NONE);
        CHECK.due("none", x.put(-1, 0, 0), NONE);
        CHECK.due("nothing", x.put(2, 0, 0), NOTHING);
        CHECK.due("beyond", x.put(3, 2, 0), BEYOND);
        CHECK.due("beyond", x.put(3, -1, 0), BEYOND);
        CHECK.due("no list", x.get(4, 0), NO);
        CHECK.due("no list", x.get(-1, 0), NO);
        CHECK.due("nothing there", x.get(2, 0), NO);
        CHECK.due("no place", x.get(3, 2), NO);
        CHECK.due("no place", x.get(3, -1), NO);
        CHECK.due("no change", x.count(7), 0);
        x.size(1, 1);
        CHECK.due("lists stay", x.get(3, 0), Integer.MIN_VALUE);
    }
}
