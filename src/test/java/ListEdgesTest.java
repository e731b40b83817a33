import java.util.function.Consumer;

/** The edges that the document names of lists (Terms 4, promises 33 to 35), a method a sentence. */
public final class ListEdgesTest {
    private static final Check CHECK = new Check("ListEdgesTest");
    private static final int NONE = SandGroup.NONE, BAD = SandGroup.BAD;
    private static final int NOTHING = -11, BEYOND = -13, BELOW = -14;
    private static final long NO = SandGroup.NO;
    private static final int[] NO_LISTS = {-1, 4, 5, Integer.MIN_VALUE, Integer.MAX_VALUE};

    public static void main(String[] args) {
        listsFrom0To3();
        nothingAtFirst();
        noneToFortyInts();
        belowIsNoSize();
        allAre0();
        beyondTheRow();
        allInts();
        listsAlwaysStay();
        CHECK.end();
    }

    /** "LISTS 0 .. 3": each of its own, and none beside them */
    private static void listsFrom0To3() {
        SandGroup x = new SandGroup();
        for (int list = 0; list < 4; list++) {
            CHECK.due("list(" + list + ", " + (list + 1) + ")", x.list(list, list + 1), 1);
            CHECK.due("put", x.put(list, list, 10 + list), 1);
        }
        for (int list = 0; list < 4; list++) {
            CHECK.due("get(" + list + ", " + list + ")", x.get(list, list), 10 + list);
            CHECK.due("get(" + list + ", " + (list + 1) + ")", x.get(list, list + 1), NO);
        }
        for (int no : NO_LISTS) {
            CHECK.due("list(" + no + ", 1)", x.list(no, 1), NONE);
            CHECK.due("NONE is named ahead of BAD", x.list(no, 41), NONE);
            CHECK.due("NONE is named ahead of BELOW", x.list(no, -1), NONE);
            CHECK.due("put(" + no + ", 0, 1)", x.put(no, 0, 1), NONE);
            CHECK.due("NONE is named ahead of BEYOND", x.put(no, -1, 1), NONE);
            CHECK.due("get(" + no + ", 0)", x.get(no, 0), NO);
        }
    }

    /** "hold nothing (at first)", "NOTHING (-11): none is held" */
    private static void nothingAtFirst() {
        SandGroup x = new SandGroup();
        for (int list = 0; list < 4; list++) {
            CHECK.due("put(" + list + ", 0, 1)", x.put(list, 0, 1), NOTHING);
            CHECK.due("NOTHING is named ahead of BEYOND", x.put(list, 40, 1), NOTHING);
            CHECK.due("NOTHING is named ahead of BEYOND", x.put(list, -1, 1), NOTHING);
            CHECK.due("get(" + list + ", 0)", x.get(list, 0), NO);
            CHECK.due("get(" + list + ", -1)", x.get(list, -1), NO);
            CHECK.due("a refused one", x.list(list, 41), BAD);
            CHECK.due("nothing still", x.put(list, 0, 1), NOTHING);
        }
    }

    /** "a row of 0 .. 40 ints", "BAD: n above 40" */
    private static void noneToFortyInts() {
        for (int n = 0; n <= 43; n++) {
            SandGroup x = new SandGroup();
            boolean may = n <= 40;
            CHECK.due("list(2, " + n + ")", x.list(2, n), may ? 1 : BAD);
            CHECK.due("the last of " + n, x.get(2, n - 1), may && n > 0 ? 0 : NO);
            CHECK.due("behind the last of " + n, x.get(2, n), NO);
            CHECK.due("put there", x.put(2, n, 1), may ? BEYOND : NOTHING);
        }
        CHECK.due("far above", new SandGroup().list(0, Integer.MAX_VALUE), BAD);
    }

    /** "BELOW (-14): a size below 0" */
    private static void belowIsNoSize() {
        SandGroup x = new SandGroup();
        for (int n : new int[] {-1, -2, -40, Integer.MIN_VALUE}) {
            CHECK.due("list(0, " + n + ")", x.list(0, n), BELOW);
            CHECK.due("nothing is held", x.put(0, 0, 1), NOTHING);
        }
        Sand.fillList(x, 0, 5, 6);
        CHECK.due("list(0, -1)", x.list(0, -1), BELOW);
        CHECK.due("it stays", x.get(0, 1), 6);
    }

    /** "A LIST becomes a row of n ints, all 0": also where it held others */
    private static void allAre0() {
        SandGroup x = new SandGroup();
        x.list(1, 40);
        for (int i = 0; i < 40; i++) {
            x.put(1, i, -1 - i);
        }
        for (int n : new int[] {39, 40, 0, 40}) {
            x.list(1, n);
            for (int i = 0; i < 40; i++) {
                CHECK.due("get(1, " + i + ") of " + n, x.get(1, i), i < n ? 0 : NO);
            }
        }
    }

    /** "BEYOND (-13): no such place" */
    private static void beyondTheRow() {
        SandGroup x = new SandGroup();
        x.list(0, 40);
        x.list(1, 0);
        x.list(2, 1);
        int[] sizes = {40, 0, 1};
        for (int list = 0; list < 3; list++) {
            int n = sizes[list];
            for (int i : new int[] {-1, n, n + 1, 100, Integer.MIN_VALUE, Integer.MAX_VALUE}) {
                CHECK.due("put(" + list + ", " + i + ", 7)", x.put(list, i, 7), BEYOND);
                CHECK.due("get(" + list + ", " + i + ")", x.get(list, i), NO);
            }
            for (int i = 0; i < n; i++) {
                CHECK.due("none is otherwise", x.get(list, i), 0);
            }
        }
        CHECK.due("the first", x.put(0, 0, 7), 1);
        CHECK.due("the last", x.put(0, 39, 8), 1);
        CHECK.due("the first", x.get(0, 0), 7);
        CHECK.due("the last", x.get(0, 39), 8);
    }

    /** "Place i of a LIST becomes v": any int, also what looks as an answer does */
    private static void allInts() {
        SandGroup x = new SandGroup();
        x.list(3, 1);
        for (int v : new int[] {Integer.MIN_VALUE, Integer.MAX_VALUE, 0, 1, NONE, NOTHING, BEYOND, BELOW}) {
            CHECK.due("put(3, 0, " + v + ")", x.put(3, 0, v), 1);
            CHECK.due("get", x.get(3, 0), v);
        }
    }

    private static void stays(String what, Consumer<SandGroup> act) {
        SandGroup x = new SandGroup();
        Sand.fillList(x, 0, 4, -5);
        x.list(1, 0);
        act.accept(x);
        CHECK.due(what + ": the first", x.get(0, 0), 4);
        CHECK.due(what + ": the last", x.get(0, 1), -5);
        CHECK.due(what + ": no more", x.put(0, 2, 0), BEYOND);
        CHECK.due(what + ": a row of none", x.put(1, 0, 0), BEYOND);
        CHECK.due(what + ": nothing", x.put(2, 0, 0), NOTHING);
    }

    /** "LISTS always stay" */
    private static void listsAlwaysStay() {
        stays("another size", x -> x.size(4, 4));
        stays("the size as it was", x -> x.size(3, 3));
        stays("a wall", x -> x.wall(0, true));
        stays("a text", x -> Sand.readAll(x, "12/34"));
        stays("a text with a fault", x -> Sand.readAll(x, "12/3"));
        stays("a change", x -> x.set(0, 9));
        stays("undo", x -> {
            x.set(0, 9);
            x.undo();
        });
        stays("redo", x -> {
            x.set(0, 9);
            x.undo();
            x.redo();
        });
        stays("judge", x -> x.judge(0));
        stays("steadies", x -> x.steadies(0));
        stays("film of another", x -> x.film(3));
    }
}
