/** Promises 36 to 38: changes undone and done again, and what is counted. */
public final class ChangesTest {
    private static final Check CHECK = new Check("ChangesTest");
    private static final int STATE = SandGroup.STATE, BAD = SandGroup.BAD;

    public static void main(String[] args) {
        undoEachKind();
        eightAreKept();
        redoEndsWithAnother();
        refusedIsNoChange();
        askedIsNoChange();
        count();
        CHECK.end();
    }

    private static void undoEachKind() {
        SandGroup x = Sand.of("12");
        CHECK.due("none", x.undo(), STATE);
        CHECK.due("none", x.redo(), STATE);
        x.keep(0);
        x.set(0, 9);
        x.drop(1, 8);
        x.topple(0);
        x.settle();
        x.load(0);
        String[] states = {"1 2", "9 2", "9 10", "5 11", null, "1 2"};
        states[4] = settledText("5 11");
        for (int left = 4; left >= 0; left--) {
            CHECK.due("undo", x.undo(), left);
            CHECK.holds("undone to " + states[left], Sand.show(x).equals(states[left]));
            CHECK.due("may be undone", x.count(7), left);
            CHECK.due("may be done again", x.count(8), 5 - left);
        }
        CHECK.due("none", x.undo(), STATE);
        for (int done = 1; done <= 5; done++) {
            CHECK.due("redo", x.redo(), 5 - done);
            CHECK.holds("done again to " + states[done], Sand.show(x).equals(states[done]));
            CHECK.due("may be undone", x.count(7), done);
            CHECK.due("may be done again", x.count(8), 5 - done);
        }
        CHECK.due("none", x.redo(), STATE);
        CHECK.due("piles are not undone", x.count(4), 1);
    }

    /** 5 11: 1 12 -> 4 0 -> 0 1. */
    private static String settledText(String heights) {
        return heights.equals("5 11") ? "0 1" : null;
    }

    private static void eightAreKept() {
        SandGroup x = Sand.of("0");
        for (int v = 1; v <= 20; v++) {
            x.set(0, v);
            CHECK.due("kept", x.count(7), Math.min(v, 8));
        }
        for (int left = 7; left >= 0; left--) {
            CHECK.due("undo", x.undo(), left);
            CHECK.due("height", x.height(0), 12 + left);
        }
        CHECK.due("no more", x.undo(), STATE);
        CHECK.due("the oldest kept", x.height(0), 12);
        for (int left = 7; left >= 0; left--) {
            CHECK.due("redo", x.redo(), left);
            CHECK.due("height", x.height(0), 20 - left);
        }
        CHECK.due("no more", x.redo(), STATE);
        x.set(0, 30);
        CHECK.due("a ninth", x.count(7), 8);
        for (int k = 0; k < 8; k++) {
            x.undo();
        }
        CHECK.due("the oldest is off", x.height(0), 13);
    }

    private static void redoEndsWithAnother() {
        SandGroup x = Sand.of("00");
        x.set(0, 1);
        x.set(0, 2);
        x.set(0, 3);
        x.undo();
        x.undo();
        CHECK.due("two", x.count(8), 2);
        CHECK.due("the same again is another", x.set(0, 1), 1);
        CHECK.due("none", x.count(8), 0);
        CHECK.due("redo", x.redo(), STATE);
        CHECK.due("two", x.count(7), 2);
        CHECK.due("undo", x.undo(), 1);
        CHECK.due("height", x.height(0), 1);
        CHECK.due("undo", x.undo(), 0);
        CHECK.due("height", x.height(0), 0);
        CHECK.due("redo", x.redo(), 1);
        CHECK.due("settle where nothing is otherwise", x.settle(), 0);
        CHECK.due("redo", x.redo(), STATE);
    }

    private static void refusedIsNoChange() {
        SandGroup x = Sand.of("3#");
        x.set(0, 2);
        x.undo();
        x.set(1, 0);
        x.set(0, -1);
        x.drop(1, 1);
        x.drop(0, 0);
        x.topple(0);
        x.topple(1);
        x.load(0);
        x.load(9);
        x.read();
        x.size(9, 9);
        x.wall(7, true);
        CHECK.due("may be undone", x.count(7), 0);
        CHECK.due("may be done again", x.count(8), 1);
        CHECK.due("height", x.height(0), 3);
    }

    private static void askedIsNoChange() {
        SandGroup x = Sand.of("33/33");
        x.set(0, 2);
        x.undo();
        x.keep(0);
        x.nought(1);
        x.sum(2, 0, 1);
        x.times(3, 0, 7);
        x.opposite(4, 0);
        x.order(0);
        x.one(0, 1);
        x.group();
        x.burn(0, 1);
        x.through();
        x.avalanche(0, 0);
        x.again(0, 0);
        x.lots(1, 9, 3);
        x.film(0);
        x.judge(0);
        x.steadies(0);
        x.trace(0, 0);
        CHECK.due("may be done again", x.count(8), 1);
        CHECK.due("may be undone", x.count(7), 0);
        CHECK.holds("heights stay", Sand.show(x).equals("3 3/3 3"));
        CHECK.due("redo", x.redo(), 0);
        CHECK.due("height", x.height(0), 2);
    }

    private static void count() {
        SandGroup x = Sand.of("12#/456");
        int[] due = {6, 3, 5, 18, 0, 0, 0, 0, 0};
        for (int what = 0; what < due.length; what++) {
            CHECK.due("count(" + what + ")", x.count(what), due[what]);
        }
        CHECK.due("bad", x.count(-1), BAD);
        CHECK.due("bad", x.count(9), BAD);
        CHECK.due("bad", x.count(Integer.MIN_VALUE), BAD);
        for (int pile = 0; pile < 6; pile++) {
            x.nought(pile);
            CHECK.due("piles", x.count(4), pile + 1);
        }
        x.feed(1);
        CHECK.due("bytes", x.count(5), 1);
        x.read();
        CHECK.due("bytes", x.count(5), 0);
        CHECK.due("codes", x.count(6), 3);
    }
}
