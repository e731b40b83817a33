/** Promises 1 to 11: the grid and the texts it is read from. */
public final class GridTest {
    private static final Check CHECK = new Check("GridTest");
    private static final int NONE = SandGroup.NONE, BAD = SandGroup.BAD, FULL = SandGroup.FULL, NOT = SandGroup.NOT;

    public static void main(String[] args) {
        newObject();
        size();
        sizeForgets();
        wall();
        wallForgets();
        set();
        drop();
        topple();
        toppleAboveTop();
        settle();
        feed();
        readGrids();
        readForgets();
        readFaults();
        refusedTextChangesNothing();
        whyStays();
        CHECK.end();
    }

    private static void newObject() {
        SandGroup x = new SandGroup();
        CHECK.due("new count(0)", x.count(0), 9);
        CHECK.due("new count(1)", x.count(1), 3);
        CHECK.due("new count(2)", x.count(2), 9);
        for (int what = 3; what <= 8; what++) {
            CHECK.due("new count(" + what + ")", x.count(what), 0);
        }
        CHECK.holds("a new grid is empty", Sand.show(x).equals("0 0 0/0 0 0/0 0 0"));
        CHECK.due("height(9)", x.height(9), NONE);
        CHECK.due("height(-1)", x.height(-1), NONE);
        for (int list = 0; list < 4; list++) {
            CHECK.due("new get", x.get(list, 0), SandGroup.NO);
            CHECK.due("new put", x.put(list, 0, 1), -11);
        }
        for (int pile = 0; pile < 6; pile++) {
            CHECK.due("new load", x.load(pile), SandGroup.EMPTY);
        }
    }

    private static void size() {
        SandGroup x = new SandGroup();
        int before = 9;
        for (int r = 1; r <= 4; r++) {
            for (int c = 1; c <= 4; c++) {
                CHECK.due("size " + r + " " + c, x.size(r, c), before);
                before = r * c;
                CHECK.due("cells", x.count(0), before);
                CHECK.due("columns", x.count(1), c);
                CHECK.due("places", x.count(2), before);
                CHECK.due("last cell", x.height(before - 1), 0);
                CHECK.due("behind the last", x.height(before), NONE);
            }
        }
        int[] wrong = {0, 5, -1, Integer.MIN_VALUE, Integer.MAX_VALUE};
        for (int v : wrong) {
            CHECK.due("size bad rows", x.size(v, 2), BAD);
            CHECK.due("size bad columns", x.size(2, v), BAD);
        }
        CHECK.due("cells after bad", x.count(0), 16);
    }

    private static void sizeForgets() {
        SandGroup x = Sand.of("12#/456/789");
        x.set(0, 5);
        x.undo();
        x.set(0, 5);
        x.set(0, 6);
        x.undo();
        x.keep(0);
        Sand.fillList(x, 1, 7, 8);
        Sand.feedAll(x, "ab");
        CHECK.due("refused", x.size(3, 0), BAD);
        CHECK.due("piles behind a refused size", x.count(4), 1);
        CHECK.due("changes behind a refused size", x.count(7), 1);
        CHECK.due("changes behind a refused size", x.count(8), 1);
        CHECK.due("height behind a refused size", x.height(0), 5);
        CHECK.due("as it was", x.size(3, 3), 9);
        CHECK.holds("all are empty places", Sand.show(x).equals("0 0 0/0 0 0/0 0 0"));
        CHECK.due("piles", x.count(4), 0);
        CHECK.due("pile", x.pile(0, 0), SandGroup.EMPTY);
        CHECK.due("undo", x.undo(), SandGroup.STATE);
        CHECK.due("redo", x.redo(), SandGroup.STATE);
        CHECK.due("lists stay", x.get(1, 1), 8);
        CHECK.due("tape stays", x.count(5), 2);
    }

    private static void wall() {
        SandGroup x = Sand.of(2, 3, 1, 2, 3, 4, 5, 6);
        CHECK.due("wall none", x.wall(6, true), NONE);
        CHECK.due("wall none", x.wall(-1, false), NONE);
        CHECK.due("wall as it was", x.wall(4, false), 0);
        CHECK.due("its height stays", x.height(4), 5);
        CHECK.due("wall", x.wall(4, true), 0);
        CHECK.due("height of a wall", x.height(4), NONE);
        CHECK.due("places", x.count(2), 5);
        CHECK.due("cells", x.count(0), 6);
        CHECK.due("grains", x.count(3), 16);
        CHECK.due("wall as it was", x.wall(4, true), 1);
        CHECK.due("no wall", x.wall(4, false), 1);
        CHECK.holds("height 0 then, others stay", Sand.show(x).equals("1 2 3/4 0 6"));
    }

    private static void wallForgets() {
        SandGroup x = Sand.of(2, 2, 1, 2, 3, 3);
        x.keep(2);
        x.undo();
        CHECK.due("as it was", x.wall(1, false), 0);
        CHECK.due("piles stay", x.count(4), 1);
        CHECK.due("changes stay", x.count(7), 3);
        CHECK.due("changes stay", x.count(8), 1);
        x.wall(1, true);
        CHECK.due("piles", x.count(4), 0);
        CHECK.due("changes", x.count(7), 0);
        CHECK.due("changes", x.count(8), 0);
        x.keep(2);
        x.set(0, 3);
        CHECK.due("as it was", x.wall(1, true), 1);
        CHECK.due("piles stay", x.count(4), 1);
        CHECK.due("changes stay", x.count(7), 1);
        x.wall(1, false);
        CHECK.due("piles", x.count(4), 0);
        CHECK.due("changes", x.undo(), SandGroup.STATE);
    }

    private static void set() {
        SandGroup x = Sand.of("0#");
        CHECK.due("set", x.set(0, 999), 0);
        CHECK.due("set", x.set(0, 0), 999);
        CHECK.due("set bad", x.set(0, 1000), BAD);
        CHECK.due("set bad", x.set(0, -1), BAD);
        CHECK.due("set a wall", x.set(1, 1), NONE);
        CHECK.due("set a wall badly: NONE first", x.set(1, -1), NONE);
        CHECK.due("set no cell", x.set(2, 1), NONE);
        CHECK.due("set no cell", x.set(Integer.MIN_VALUE, 1), NONE);
        CHECK.due("changes", x.count(7), 2);
    }

    private static void drop() {
        SandGroup x = Sand.of("9#");
        CHECK.due("drop", x.drop(0, 1), 10);
        CHECK.due("drop", x.drop(0, 99), 109);
        CHECK.due("drop bad", x.drop(0, 0), BAD);
        CHECK.due("drop bad", x.drop(0, 100), BAD);
        CHECK.due("drop none first", x.drop(1, 100), NONE);
        CHECK.due("drop none", x.drop(2, 1), NONE);
        x.set(0, 990);
        CHECK.due("drop full", x.drop(0, 10), FULL);
        CHECK.due("bad before full", x.drop(0, 100), BAD);
        CHECK.due("drop to the top", x.drop(0, 9), 999);
        CHECK.due("drop full", x.drop(0, 1), FULL);
        CHECK.due("nothing is otherwise", x.height(0), 999);
        CHECK.due("changes", x.count(7), 4);
    }

    private static void topple() {
        SandGroup x = Sand.of("444/44#/444");
        CHECK.due("a corner loses 2", x.topple(0), 2);
        CHECK.holds("topple(0)", Sand.show(x).equals("0 5 4/5 4 #/4 4 4"));
        CHECK.due("the middle loses 1 to the wall", x.topple(4), 1);
        CHECK.holds("topple(4)", Sand.show(x).equals("0 6 4/6 0 #/4 5 4"));
        CHECK.due("above the wall: 3", x.topple(2), 3);
        CHECK.holds("topple(2)", Sand.show(x).equals("0 7 0/6 0 #/4 5 4"));
        CHECK.due("it may not", x.topple(4), NOT);
        CHECK.due("a wall", x.topple(5), NONE);
        CHECK.due("no cell", x.topple(9), NONE);
        CHECK.due("no cell", x.topple(-1), NONE);
        SandGroup y = Sand.of(3, 3, 0, 0, 0, 0, 4, 3);
        CHECK.due("the middle loses nothing", y.topple(4), 0);
        CHECK.due("3 may not", y.topple(3), NOT);
        CHECK.due("4 may", y.topple(5), 1);
        SandGroup z = Sand.of("5");
        CHECK.due("alone: all is lost", z.topple(0), 4);
        CHECK.due("alone", z.height(0), 1);
    }

    private static void toppleAboveTop() {
        SandGroup x = Sand.of(1, 2, 999, 999);
        CHECK.due("topple", x.topple(0), 3);
        CHECK.due("above 999", x.height(1), 1000);
        CHECK.due("drop there", x.drop(1, 1), FULL);
        CHECK.due("set back", x.set(1, 5), 1000);
        CHECK.due("undo", x.undo(), 3);
        CHECK.due("above 999 again", x.height(1), 1000);
    }

    private static void settle() {
        SandGroup x = Sand.of(1, 2, 4, 3);
        // 4 3 -> 0 4 -> 1 0
        CHECK.due("settle", x.settle(), 2);
        CHECK.holds("settled", Sand.show(x).equals("1 0"));
        CHECK.due("settle again", x.settle(), 0);
        CHECK.due("both are changes", x.count(7), 4);
        SandGroup y = Sand.of("##");
        CHECK.due("no place", y.settle(), 0);
        CHECK.due("a change", y.count(7), 1);
    }

    private static void feed() {
        SandGroup x = new SandGroup();
        CHECK.due("feed bad", x.feed(0), BAD);
        CHECK.due("feed bad", x.feed(128), BAD);
        CHECK.due("feed bad", x.feed(-1), BAD);
        for (int i = 1; i <= 40; i++) {
            CHECK.due("feed", x.feed(i == 1 ? 1 : 127), i);
        }
        CHECK.due("feed full", x.feed(49), FULL);
        CHECK.due("bad before full", x.feed(0), BAD);
        CHECK.due("bytes", x.count(5), 40);
        CHECK.due("read", x.read(), -100);
        CHECK.due("bytes", x.count(5), 0);
        CHECK.due("feed", x.feed(49), 1);
    }

    private static void grid(String text, int cells, String shown) {
        SandGroup x = new SandGroup();
        CHECK.due("read " + text, Sand.readAll(x, text), cells);
        CHECK.holds(text + " is " + shown + ": " + Sand.show(x), Sand.show(x).equals(shown));
        CHECK.due("columns of " + text, x.count(1), text.indexOf('/') < 0 ? text.length() : text.indexOf('/'));
        CHECK.due("codes", x.count(6), 0);
        CHECK.due("why(0)", x.why(0), NONE);
        CHECK.due("bytes", x.count(5), 0);
    }

    private static void readGrids() {
        grid("0", 1, "0");
        grid("9", 1, "9");
        grid("#", 1, "#");
        grid("1234", 4, "1 2 3 4");
        grid("1/2/3/4", 4, "1/2/3/4");
        grid("12/34", 4, "1 2/3 4");
        grid("#2#/4#6", 6, "# 2 #/4 # 6");
        grid("1234/5678/9012/34#6", 16, "1 2 3 4/5 6 7 8/9 0 1 2/3 4 # 6");
    }

    private static void readForgets() {
        SandGroup x = Sand.of(3, 3, 5, 6, 7, 8, 9, 10, 11, 12, 13);
        x.keep(0);
        x.undo();
        Sand.fillList(x, 3, 4);
        CHECK.due("read", Sand.readAll(x, "1#"), 2);
        CHECK.due("piles", x.count(4), 0);
        CHECK.due("undone", x.count(7), 0);
        CHECK.due("done again", x.count(8), 0);
        CHECK.due("lists stay", x.get(3, 0), 4);
        CHECK.due("undo", x.undo(), SandGroup.STATE);
        x.size(3, 3);
        CHECK.holds("nothing of it is left", Sand.show(x).equals("0 0 0/0 0 0/0 0 0"));
        CHECK.due("places", x.count(2), 9);
    }

    private static void fault(String text, int place, int slashes, int cause) {
        SandGroup x = new SandGroup();
        CHECK.due("read " + text, Sand.readAll(x, text), -100 - place);
        CHECK.due(text + " why(0)", x.why(0), 1);
        CHECK.due(text + " why(1)", x.why(1), 10 + slashes);
        CHECK.due(text + " why(2)", x.why(2), cause);
        CHECK.due(text + " why(3)", x.why(3), NONE);
        CHECK.due(text + " why(-1)", x.why(-1), NONE);
        CHECK.due(text + " count(6)", x.count(6), 3);
        CHECK.due(text + " count(5)", x.count(5), 0);
    }

    private static void readFaults() {
        fault("", 0, 0, 3);
        fault("1/", 2, 1, 3);
        fault("12/3", 4, 1, 3);
        fault("12/34/", 6, 2, 3);
        fault("123/456/78", 10, 2, 3);
        fault("1/2/3/", 6, 3, 3);
        fault("/", 0, 0, 2);
        fault("a", 0, 0, 2);
        fault(" 1", 0, 0, 2);
        fault("1:", 1, 0, 2);
        fault("1.", 1, 0, 2);
        fault("1\"", 1, 0, 2);
        fault("1$", 1, 0, 2);
        fault("1//", 2, 1, 2);
        fault("12/3/45", 4, 1, 2);
        fault("12/3x", 4, 1, 2);
        fault("1234x", 4, 0, 2);
        fault("1/2/3/4x", 7, 3, 2);
        fault("12345", 4, 0, 4);
        fault("####/#####", 9, 1, 4);
        fault("1234#", 4, 0, 4);
        fault("12/345", 5, 1, 4);
        fault("1/2/3/4#", 7, 3, 4);
        fault("1/2/34/5", 5, 2, 4);
        fault("1/2/3/4/", 7, 3, 5);
        fault("1234/1234/1234/1234/", 19, 3, 5);
        fault("1234/1234/1234/123/", 18, 3, 2);
        fault("12/34/56/78/90/12/34/56/78/90/12/34/56/7", 11, 3, 5);
    }

    private static void refusedTextChangesNothing() {
        SandGroup x = Sand.of(2, 2, 1, 2, 3, 3);
        x.keep(1);
        x.undo();
        CHECK.due("read", Sand.readAll(x, "99/9"), -104);
        CHECK.holds("heights stay", Sand.show(x).equals("1 2/3 0"));
        CHECK.due("piles", x.count(4), 1);
        CHECK.due("undone", x.count(7), 3);
        CHECK.due("done again", x.redo(), 0);
    }

    private static void whyStays() {
        SandGroup x = new SandGroup();
        CHECK.due("read", x.read(), -100);
        x.size(2, 2);
        x.feed(49);
        x.settle();
        CHECK.due("why stays", x.why(2), 3);
        CHECK.due("read", x.read(), 1);
        CHECK.due("why is none", x.why(0), NONE);
        CHECK.due("codes", x.count(6), 0);
    }
}
