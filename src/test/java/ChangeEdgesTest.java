import java.util.List;
import java.util.function.Consumer;

/** The edges that the document names of changes and counts (Terms 4, promises 36 to 38), a method a sentence. */
public final class ChangeEdgesTest {
    private static final Check CHECK = new Check("ChangeEdgesTest");
    private static final int BAD = SandGroup.BAD, STATE = SandGroup.STATE, FULL = SandGroup.FULL;
    /** Each of the five on a grid where it isn't refused. */
    private static final List<Consumer<SandGroup>> FIVE = List.of(x -> x.set(0, 7), x -> x.drop(0, 1), x -> x.topple(0),
        SandGroup::settle, x -> x.load(0));

    public static void main(String[] args) {
        eachOfTheFive();
        whereNothingIsOtherwise();
        refusedAreNone();
        noOthers();
        theLatestFirst();
        eightAreKept();
        againAsLongAsNoOtherCame();
        refusedLeaveThemToBeDoneAgain();
        noneWithAnotherGrid();
        heightsAlone();
        countNames();
        theLastOf512Calls();
        CHECK.end();
    }

    /** 94 with a pile that holds something and no changes. */
    private static SandGroup fresh() {
        SandGroup x = Sand.of("94");
        x.keep(0);
        return x;
    }

    /** "CHANGES: each set(), drop(), topple(), settle(), load() that isn't refused is one" */
    private static void eachOfTheFive() {
        for (int i = 0; i < 5; i++) {
            SandGroup x = fresh();
            CHECK.due("none yet", x.undo(), STATE);
            CHECK.due("none yet", x.redo(), STATE);
            FIVE.get(i).accept(x);
            String then = Sand.show(x);
            CHECK.holds(i + " changes heights", !then.equals("9 4"));
            CHECK.due(i + " may be undone", x.count(7), 1);
            CHECK.due(i + " undone", x.undo(), 0);
            CHECK.holds(i + " as it was", Sand.show(x).equals("9 4"));
            CHECK.due(i + " may be done again", x.count(8), 1);
            CHECK.due(i + " done again", x.redo(), 0);
            CHECK.holds(i + " as it became", Sand.show(x).equals(then));
            CHECK.due(i + " no more", x.redo(), STATE);
            CHECK.due(i + " may be undone", x.count(7), 1);
        }
    }

    /** "also where nothing is otherwise by it" */
    private static void whereNothingIsOtherwise() {
        SandGroup x = Sand.of("30");
        x.keep(0);
        x.set(0, 3);
        CHECK.due("set", x.count(7), 1);
        x.settle();
        CHECK.due("settle", x.count(7), 2);
        x.load(0);
        CHECK.due("load", x.count(7), 3);
        CHECK.due("undo", x.undo(), 2);
        x.settle();
        CHECK.due("it ends what might be done again", x.redo(), STATE);
        for (int left = 2; left >= 0; left--) {
            CHECK.due("undo", x.undo(), left);
            CHECK.holds("nothing is otherwise", Sand.show(x).equals("3 0"));
        }
        CHECK.due("none", x.undo(), STATE);
        SandGroup y = Sand.of("#");
        y.settle();
        CHECK.due("without a place", y.undo(), 0);
    }

    private static void noChange(String what, Consumer<SandGroup> act) {
        SandGroup x = Sand.of("3#/00");
        x.keep(0);
        x.set(2, 1);
        x.set(2, 2);
        x.undo();
        act.accept(x);
        CHECK.due(what + ": may be undone", x.count(7), 1);
        CHECK.due(what + ": may be done again", x.count(8), 1);
        CHECK.holds(what + ": heights", Sand.show(x).equals("3 #/1 0"));
        CHECK.due(what + ": done again", x.redo(), 0);
        CHECK.due(what + ": height", x.height(2), 2);
        CHECK.due(what + ": undone", x.undo(), 1);
        CHECK.due(what + ": undone", x.undo(), 0);
        CHECK.due(what + ": height", x.height(2), 0);
    }

    /** ".. that isn't refused ..": one for each refusal of each of the five */
    private static void refusedAreNone() {
        noChange("set NONE", x -> x.set(1, 3));
        noChange("set BAD", x -> x.set(0, 1000));
        noChange("drop NONE", x -> x.drop(4, 1));
        noChange("drop BAD", x -> x.drop(0, 100));
        noChange("topple NONE", x -> x.topple(1));
        noChange("topple NOT", x -> x.topple(0));
        noChange("load NONE", x -> x.load(6));
        noChange("load EMPTY", x -> x.load(1));
        SandGroup x = Sand.of(1, 1, 999);
        CHECK.due("drop FULL", x.drop(0, 1), FULL);
        CHECK.due("may be undone", x.count(7), 1);
    }

    /** Calls that aren't of the five are none. */
    private static void noOthers() {
        noChange("wall as it was", x -> x.wall(1, true));
        noChange("size BAD", x -> x.size(0, 0));
        noChange("wall NONE", x -> x.wall(9, true));
        noChange("a text with a fault", x -> Sand.readAll(x, "1/"));
        noChange("feed", x -> x.feed(1));
        noChange("keep", x -> x.keep(3));
        noChange("sum", x -> x.sum(1, 0, 0));
        noChange("nought", x -> x.nought(1));
        noChange("times", x -> x.times(1, 0, 9));
        noChange("opposite", x -> x.opposite(1, 0));
        noChange("list", x -> x.list(0, 3));
        noChange("film", x -> x.film(0));
        noChange("put", x -> {
            x.list(0, 1);
            x.put(0, 0, 1);
        });
    }

    /** "they can be UNDONE, the latest first, and DONE AGAIN": how many may still be */
    private static void theLatestFirst() {
        SandGroup x = fresh();
        String[] shown = new String[6];
        shown[0] = Sand.show(x);
        for (int i = 0; i < 5; i++) {
            FIVE.get(i).accept(x);
            shown[i + 1] = Sand.show(x);
        }
        for (int left = 4; left >= 0; left--) {
            CHECK.due("undo", x.undo(), left);
            CHECK.holds("undone to " + shown[left], Sand.show(x).equals(shown[left]));
            CHECK.due("count(7)", x.count(7), left);
            CHECK.due("count(8)", x.count(8), 5 - left);
        }
        CHECK.due("none", x.undo(), STATE);
        CHECK.holds("it stays", Sand.show(x).equals(shown[0]));
        for (int done = 1; done <= 5; done++) {
            CHECK.due("redo", x.redo(), 5 - done);
            CHECK.holds("done again to " + shown[done], Sand.show(x).equals(shown[done]));
            CHECK.due("count(7)", x.count(7), done);
            CHECK.due("count(8)", x.count(8), 5 - done);
        }
        CHECK.due("none", x.redo(), STATE);
        CHECK.holds("it stays", Sand.show(x).equals(shown[5]));
    }

    /** "the latest 8 are kept (a ninth takes the oldest off)" */
    private static void eightAreKept() {
        for (int many = 7; many <= 17; many++) {
            SandGroup x = Sand.of("0");
            for (int v = 1; v <= many; v++) {
                CHECK.due("set", x.set(0, v), v - 1);
            }
            int kept = Math.min(many, 8);
            CHECK.due(many + " changes", x.count(7), kept);
            for (int left = kept - 1; left >= 0; left--) {
                CHECK.due(many + " changes: undo", x.undo(), left);
                CHECK.due(many + " changes: height", x.height(0), many - kept + left);
            }
            CHECK.due(many + " changes: no more", x.undo(), STATE);
            CHECK.due(many + " changes: the oldest height", x.height(0), many - kept);
            for (int left = kept - 1; left >= 0; left--) {
                CHECK.due(many + " changes: redo", x.redo(), left);
                CHECK.due(many + " changes: height", x.height(0), many - left);
            }
            CHECK.due(many + " changes: no more", x.redo(), STATE);
        }
        SandGroup y = Sand.of("0");
        for (int v = 1; v <= 8; v++) {
            y.set(0, v);
        }
        y.undo();
        y.set(0, 20);
        CHECK.due("seven and one: eight", y.count(7), 8);
        for (int left = 7; left >= 0; left--) {
            y.undo();
        }
        CHECK.due("none was taken off", y.height(0), 0);
    }

    /** "DONE AGAIN (as long as no other came behind)": none of the five */
    private static void againAsLongAsNoOtherCame() {
        for (int i = 0; i < 5; i++) {
            SandGroup x = fresh();
            x.set(1, 1);
            x.set(1, 2);
            x.set(1, 3);
            x.undo();
            x.undo();
            CHECK.due("two", x.count(8), 2);
            FIVE.get(i).accept(x);
            CHECK.due(i + " came: none", x.count(8), 0);
            CHECK.due(i + " came: redo", x.redo(), STATE);
            CHECK.due(i + " came: one more to be undone", x.count(7), 2);
            CHECK.due(i + " came: undo", x.undo(), 1);
            CHECK.holds(i + " came: as it was", Sand.show(x).equals("9 1"));
            CHECK.due(i + " came: undo", x.undo(), 0);
            CHECK.holds(i + " came: as it was at first", Sand.show(x).equals("9 4"));
        }
    }

    /** .. and a refused one isn't such another */
    private static void refusedLeaveThemToBeDoneAgain() {
        SandGroup x = fresh();
        for (int v = 1; v <= 8; v++) {
            x.set(1, v);
        }
        for (int k = 0; k < 8; k++) {
            x.undo();
        }
        x.undo();
        x.set(2, 0);
        x.load(5);
        CHECK.due("eight", x.count(8), 8);
        for (int left = 7; left >= 0; left--) {
            CHECK.due("redo", x.redo(), left);
        }
        CHECK.due("none", x.redo(), STATE);
        CHECK.due("the latest", x.height(1), 8);
    }

    private static void forgets(String what, int height, Consumer<SandGroup> act) {
        SandGroup x = Sand.of("9#");
        x.set(0, 8);
        x.set(0, 7);
        x.undo();
        act.accept(x);
        CHECK.due(what + ": may be undone", x.count(7), 0);
        CHECK.due(what + ": may be done again", x.count(8), 0);
        CHECK.due(what + ": undo", x.undo(), STATE);
        CHECK.due(what + ": redo", x.redo(), STATE);
        CHECK.due(what + ": height", x.height(0), height);
        x.set(0, 5);
        CHECK.due(what + ": the next", x.undo(), 0);
        CHECK.due(what + ": its undoing", x.height(0), height);
    }

    /** "when the GRID's size is told (also as it was), a WALL told otherwise, or a text read without FAULT, there are none any more" */
    private static void noneWithAnotherGrid() {
        forgets("another size", 0, x -> x.size(2, 2));
        forgets("the size as it was", 0, x -> x.size(1, 2));
        forgets("a place", 8, x -> x.wall(1, false));
        forgets("a wall and a place", 0, x -> {
            x.wall(0, true);
            x.wall(0, false);
        });
        forgets("a text", 6, x -> Sand.readAll(x, "6"));
        forgets("the text as it was", 8, x -> Sand.readAll(x, "8#"));
    }

    /** What is undone is a change of HEIGHTS: piles, lists, the tape and WHY stay. */
    private static void heightsAlone() {
        SandGroup x = fresh();
        x.set(0, 1);
        x.keep(1);
        Sand.fillList(x, 0, 3);
        Sand.readAll(x, "x");
        x.feed('1');
        x.undo();
        CHECK.due("piles", x.count(4), 2);
        CHECK.due("pile", x.pile(1, 0), 2);
        CHECK.due("list", x.get(0, 0), 3);
        CHECK.due("tape", x.count(5), 1);
        CHECK.due("why", x.why(2), 2);
        x.redo();
        CHECK.due("piles", x.count(4), 2);
        CHECK.due("list", x.get(0, 0), 3);
        CHECK.due("tape", x.count(5), 1);
        CHECK.due("why", x.count(6), 3);
    }

    /** "How many: 0 CELLS .. 8 that may be DONE AGAIN. BAD." */
    private static void countNames() {
        SandGroup x = Sand.of("123/4#6");
        x.keep(2);
        x.keep(4);
        x.set(0, 9);
        x.set(0, 8);
        x.set(0, 7);
        x.undo();
        Sand.readAll(x, "?");
        Sand.feedAll(x, "1234");
        int[] due = {6, 3, 5, 23, 2, 4, 3, 2, 1};
        for (int what = 0; what < due.length; what++) {
            CHECK.due("count(" + what + ")", x.count(what), due[what]);
        }
        for (int what : new int[] {Integer.MIN_VALUE, -1, 9, 10, 100, Integer.MAX_VALUE}) {
            CHECK.due("count(" + what + ")", x.count(what), BAD);
        }
        SandGroup y = Sand.of("9999/9999/9999/9999");
        for (int cell = 0; cell < 16; cell++) {
            y.set(cell, 999);
        }
        CHECK.due("as many grains as may be told", y.count(3), 16 * 999);
    }

    /** "An object is used for at most 512 calls": the last of them is answered as any other */
    private static void theLastOf512Calls() {
        SandGroup x = new SandGroup();
        for (int call = 1; call <= 511; call++) {
            x.set(0, call);
        }
        CHECK.due("undo", x.undo(), 7);
        SandGroup y = new SandGroup();
        for (int call = 1; call <= 511; call++) {
            if (call % 41 == 0) {
                y.read();
            } else {
                y.feed('1');
            }
        }
        // 12 times 40 bytes and a reading, 19 bytes more
        CHECK.due("feed", y.feed('1'), 20);
        // size() and set() are its first two
        SandGroup z = Sand.of(1, 1, 999);
        for (int call = 3; call <= 512; call++) {
            CHECK.due("topple as call " + call, z.topple(0), call <= 2 + 249 ? 4 : SandGroup.NOT);
        }
    }
}
