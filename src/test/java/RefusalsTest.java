import java.util.Set;
import java.util.TreeSet;
import java.util.function.Supplier;
import java.util.function.ToLongFunction;

/**
 * The answers of Terms 4, promise by promise: "the first that a call's words name. What
 * is answered so changes nothing, but THE TAPE, which is empty behind each call that
 * reads it, and WHY. What is asked changes nothing." And of each call that isn't
 * refused, what it changes, and that it changes nothing else.
 */
public final class RefusalsTest {
    private static final Check CHECK = new Check("RefusalsTest");
    private static final int NONE = SandGroup.NONE, BAD = SandGroup.BAD, STATE = SandGroup.STATE, FULL = SandGroup.FULL,
        NOT = SandGroup.NOT, EMPTY = SandGroup.EMPTY;
    private static final int NOTHING = -11, BEYOND = -13, BELOW = -14;
    private static final int LEAST = Integer.MIN_VALUE, MOST = Integer.MAX_VALUE;
    private static final int[] NO_PLACES = {-1, 2, 6, 16, LEAST, MOST};
    private static final int[] NO_PILES = {-1, 6, LEAST, MOST};
    private static final int[] NO_LISTS = {-1, 4, LEAST, MOST};

    private static Supplier<SandGroup> make = RefusalsTest::stocked;

    public static void main(String[] args) {
        ofTheGrid();
        ofDropAndTopple();
        ofTexts();
        ofThought();
        ofPiles();
        ofSums();
        ofBurning();
        ofGrains();
        ofScripts();
        ofLists();
        ofChanges();
        whatGridsChange();
        whatPilesChange();
        whatListsChange();
        whatIsAsked();
        CHECK.end();
    }

    /** Some of all there is: 12#/456 and what came of it, piles, lists, a text, WHY, changes both ways. */
    private static SandGroup stocked() {
        SandGroup x = Sand.of("12#/456");
        x.keep(0);
        x.nought(1);
        Sand.fillList(x, 0, 3, 4, -7);
        x.list(1, 0);
        Sand.fillList(x, 3, 1, 1, 1, 1, 1);
        Sand.readAll(x, "12/3x");
        Sand.feedAll(x, "7/8");
        x.set(0, 3);
        x.drop(5, 9);
        x.topple(4);
        x.set(1, 0);
        x.set(1, 9);
        x.undo();
        x.undo();
        return x;
    }

    /** 33/#3 as it was read, with a full tape. */
    private static SandGroup stable() {
        SandGroup x = Sand.of("33/#3");
        Sand.feedAll(x, "1".repeat(40));
        return x;
    }

    private static SandGroup tall() {
        return Sand.of(1, 2, 999, 990);
    }

    private static SandGroup withoutPlace() {
        return Sand.of("##");
    }

    /** The call is answered so, and just what these names tell is otherwise by it. */
    private static void changes(String call, ToLongFunction<SandGroup> act, long answer, String... names) {
        SandGroup x = make.get();
        CHECK.due(call, act.applyAsLong(x), answer);
        Set<String> otherwise = new Told(x).otherThan(new Told(make.get()));
        CHECK.holds(call + " changes " + Set.of(names) + ": it does " + otherwise, otherwise.equals(new TreeSet<>(Set.of(names))));
    }

    private static void refused(String call, ToLongFunction<SandGroup> act, long answer) {
        changes(call, act, answer);
    }

    private static void ofTheGrid() {
        for (int wrong : new int[] {0, 5, -1, LEAST, MOST}) {
            refused("size(" + wrong + ", 2)", x -> x.size(wrong, 2), BAD);
            refused("size(2, " + wrong + ")", x -> x.size(2, wrong), BAD);
        }
        for (int no : new int[] {-1, 6, 16, LEAST, MOST}) {
            refused("wall(" + no + ", true)", x -> x.wall(no, true), NONE);
            refused("wall(" + no + ", false)", x -> x.wall(no, false), NONE);
        }
        for (int no : NO_PLACES) {
            refused("set(" + no + ", 1)", x -> x.set(no, 1), NONE);
            refused("NONE first: set(" + no + ", -1)", x -> x.set(no, -1), NONE);
            refused("NONE first: set(" + no + ", 1000)", x -> x.set(no, 1000), NONE);
            refused("height(" + no + ")", x -> x.height(no), NONE);
        }
        for (int bad : new int[] {-1, 1000, LEAST, MOST}) {
            refused("set(0, " + bad + ")", x -> x.set(0, bad), BAD);
        }
    }

    private static void ofDropAndTopple() {
        for (int no : NO_PLACES) {
            refused("drop(" + no + ", 1)", x -> x.drop(no, 1), NONE);
            refused("NONE first: drop(" + no + ", 0)", x -> x.drop(no, 0), NONE);
            refused("topple(" + no + ")", x -> x.topple(no), NONE);
        }
        for (int bad : new int[] {0, 100, -1, LEAST, MOST}) {
            refused("drop(0, " + bad + ")", x -> x.drop(0, bad), BAD);
        }
        refused("topple of 3", x -> x.topple(0), NOT);
        make = RefusalsTest::tall;
        refused("drop on 999", x -> x.drop(0, 1), FULL);
        refused("drop on 990", x -> x.drop(1, 10), FULL);
        refused("BAD first: drop on 999", x -> x.drop(0, 100), BAD);
        refused("BAD first: drop on 999", x -> x.drop(0, 0), BAD);
        refused("NONE first: drop beside", x -> x.drop(2, 100), NONE);
        make = RefusalsTest::stocked;
    }

    private static void ofTexts() {
        for (int bad : new int[] {0, 128, -1, LEAST, MOST}) {
            refused("feed(" + bad + ")", x -> x.feed(bad), BAD);
        }
        for (int no : new int[] {-1, 3, LEAST, MOST}) {
            refused("why(" + no + ")", x -> x.why(no), NONE);
        }
        changes("read a grid with a fault", x -> {
            x.feed('9');
            return x.read();
        }, -103, "tape", "why");
        make = RefusalsTest::stable;
        refused("feed behind 40", x -> x.feed('1'), FULL);
        refused("BAD first: feed behind 40", x -> x.feed(0), BAD);
        changes("read of 40", SandGroup::read, -104, "tape", "why");
        refused("why where none is", x -> x.why(0), NONE);
        make = RefusalsTest::tall;
        changes("read of nothing", SandGroup::read, -100, "why");
        make = RefusalsTest::stocked;
    }

    private static void ofThought() {
        for (int no : new int[] {-1, 5, 99, 102, 106, 199, 202, 206, 300, LEAST, MOST}) {
            refused("settled(" + no + ")", x -> x.settled(no), NONE);
        }
        for (int no : new int[] {-1, 4, LEAST, MOST}) {
            refused("trace(" + no + ", 0)", x -> x.trace(no, 0), NONE);
            refused("NONE first: trace(" + no + ", -1)", x -> x.trace(no, -1), NONE);
            refused("common(" + no + ", 0)", x -> x.common(no, 0), NONE);
            refused("common(0, " + no + ")", x -> x.common(0, no), NONE);
        }
        for (int not : new int[] {-1, LEAST, 1000, MOST}) {
            refused("trace(0, " + not + ")", x -> x.trace(0, not), NOT);
        }
    }

    private static void ofPiles() {
        for (int no : NO_PILES) {
            refused("keep(" + no + ")", x -> x.keep(no), NONE);
            refused("load(" + no + ")", x -> x.load(no), NONE);
            refused("pile(" + no + ", 0)", x -> x.pile(no, 0), NONE);
            refused("nought(" + no + ")", x -> x.nought(no), NONE);
            refused("order(" + no + ")", x -> x.order(no), NONE);
            refused("one(" + no + ", 0)", x -> x.one(no, 0), NONE);
            refused("NONE first: one(2, " + no + ")", x -> x.one(2, no), NONE);
        }
        for (int no : NO_PLACES) {
            refused("pile(0, " + no + ")", x -> x.pile(0, no), NONE);
            refused("NONE first: pile(5, " + no + ")", x -> x.pile(5, no), NONE);
        }
        refused("load(2)", x -> x.load(2), EMPTY);
        refused("pile(5, 0)", x -> x.pile(5, 0), EMPTY);
        refused("order(3)", x -> x.order(3), EMPTY);
        refused("one(0, 4)", x -> x.one(0, 4), EMPTY);
        refused("one(4, 0)", x -> x.one(4, 0), EMPTY);
        refused("one(4, 4)", x -> x.one(4, 4), EMPTY);
    }

    private static void ofSums() {
        for (int no : NO_PILES) {
            refused("sum(" + no + ", 0, 1)", x -> x.sum(no, 0, 1), NONE);
            refused("NONE first: sum(0, " + no + ", 2)", x -> x.sum(0, no, 2), NONE);
            refused("NONE first: sum(0, 2, " + no + ")", x -> x.sum(0, 2, no), NONE);
            refused("times(" + no + ", 0, 1)", x -> x.times(no, 0, 1), NONE);
            refused("NONE first: times(0, " + no + ", -1)", x -> x.times(0, no, -1), NONE);
            refused("NONE first: times(" + no + ", 2, -1)", x -> x.times(no, 2, -1), NONE);
            refused("opposite(" + no + ", 0)", x -> x.opposite(no, 0), NONE);
            refused("opposite(0, " + no + ")", x -> x.opposite(0, no), NONE);
            refused("NONE first: opposite(" + no + ", 2)", x -> x.opposite(no, 2), NONE);
        }
        for (int bad : new int[] {-1, 1000000001, LEAST, MOST}) {
            refused("times(0, 1, " + bad + ")", x -> x.times(0, 1, bad), BAD);
            refused("BAD first: times(0, 2, " + bad + ")", x -> x.times(0, 2, bad), BAD);
        }
        refused("sum(0, 1, 2)", x -> x.sum(0, 1, 2), EMPTY);
        refused("sum(0, 2, 1)", x -> x.sum(0, 2, 1), EMPTY);
        refused("sum(2, 3, 3)", x -> x.sum(2, 3, 3), EMPTY);
        refused("times(0, 2, 0)", x -> x.times(0, 2, 0), EMPTY);
        refused("opposite(0, 2)", x -> x.opposite(0, 2), EMPTY);
    }

    private static void ofBurning() {
        for (int no : NO_PILES) {
            refused("burn(" + no + ", 0)", x -> x.burn(no, 0), NONE);
        }
        for (int no : new int[] {-1, 3, 99, 102, 106, 200, LEAST, LEAST + 100, MOST}) {
            refused("burn(0, " + no + ")", x -> x.burn(0, no), NONE);
            refused("NONE first: burn(2, " + no + ")", x -> x.burn(2, no), NONE);
        }
        refused("burn(2, 0)", x -> x.burn(2, 0), EMPTY);
        refused("burn(5, 105)", x -> x.burn(5, 105), EMPTY);
        make = () -> Sand.of("000/000/0##");
        refused("through of seven", SandGroup::through, STATE);
        make = RefusalsTest::stocked;
    }

    private static void ofGrains() {
        for (int no : NO_PLACES) {
            refused("NONE first: avalanche(" + no + ", 0)", x -> x.avalanche(no, 0), NONE);
            refused("again(" + no + ", 0)", x -> x.again(no, 0), NONE);
        }
        for (int no : new int[] {-1, 4, LEAST, MOST}) {
            refused("NONE first: avalanche(0, " + no + ")", x -> x.avalanche(0, no), NONE);
            refused("again(0, " + no + ")", x -> x.again(0, no), NONE);
        }
        for (int no : new int[] {-1, 4, 99, LEAST}) {
            refused("lots(1, 9, " + no + ")", x -> x.lots(1, 9, no), NONE);
            refused("NONE first: lots(1, 0, " + no + ")", x -> x.lots(1, 0, no), NONE);
        }
        refused("again(0, 2)", x -> x.again(0, 2), NONE);
        refused("avalanche(0, 0)", x -> x.avalanche(0, 0), STATE);
        refused("lots(1, 0, 0)", x -> x.lots(1, 0, 0), BAD);
        refused("lots(1, 201, 0)", x -> x.lots(1, 201, 0), BAD);
        refused("BAD first: lots(1, 201, 399)", x -> x.lots(1, 201, 399), BAD);
        refused("lots(1, 9, 399)", x -> x.lots(1, 9, 399), NOT);
        refused("lots(1, 9, 699)", x -> x.lots(1, 9, 699), NOT);
        make = RefusalsTest::withoutPlace;
        refused("lots(1, 1, 0)", x -> x.lots(1, 1, 0), STATE);
        refused("STATE first: lots(1, 1, 399)", x -> x.lots(1, 1, 399), STATE);
        refused("BAD first: lots(1, 0, 0)", x -> x.lots(1, 0, 0), BAD);
        refused("NONE first: lots(1, 1, 4)", x -> x.lots(1, 1, 4), NONE);
        refused("avalanche(0, 0)", x -> x.avalanche(0, 0), NONE);
        refused("again(0, 0)", x -> x.again(0, 0), NONE);
        make = () -> Sand.of("0000/0000/0000/0000");
        refused("again(5, 0)", x -> x.again(5, 0), NOT);
        refused("again(5, 1)", x -> x.again(5, 1), NOT);
        make = RefusalsTest::stocked;
    }

    private static void ofScripts() {
        for (int no : NO_LISTS) {
            refused("judge(" + no + ")", x -> x.judge(no), NONE);
            refused("steadies(" + no + ")", x -> x.steadies(no), NONE);
            refused("film(" + no + ")", x -> x.film(no), NONE);
        }
        refused("judge(2)", x -> x.judge(2), NOTHING);
        refused("steadies(2)", x -> x.steadies(2), NOTHING);
        refused("judge(1), a row of none", x -> x.judge(1), NOT);
        refused("steadies(1), a row of none", x -> x.steadies(1), 0);
    }

    private static void ofLists() {
        for (int no : NO_LISTS) {
            refused("list(" + no + ", 3)", x -> x.list(no, 3), NONE);
            refused("NONE first: list(" + no + ", 41)", x -> x.list(no, 41), NONE);
            refused("NONE first: list(" + no + ", -1)", x -> x.list(no, -1), NONE);
            refused("NONE first: put(" + no + ", 41, 1)", x -> x.put(no, 41, 1), NONE);
            refused("get(" + no + ", 0)", x -> x.get(no, 0), SandGroup.NO);
        }
        refused("list(0, 41)", x -> x.list(0, 41), BAD);
        refused("list(0, " + MOST + ")", x -> x.list(0, MOST), BAD);
        refused("list(0, -1)", x -> x.list(0, -1), BELOW);
        refused("list(2, " + LEAST + ")", x -> x.list(2, LEAST), BELOW);
        refused("put(2, 0, 1)", x -> x.put(2, 0, 1), NOTHING);
        refused("NOTHING first: put(2, -1, 1)", x -> x.put(2, -1, 1), NOTHING);
        for (int no : new int[] {-1, 3, 40, LEAST, MOST}) {
            refused("put(0, " + no + ", 1)", x -> x.put(0, no, 1), BEYOND);
            refused("get(0, " + no + ")", x -> x.get(0, no), SandGroup.NO);
        }
        refused("put(1, 0, 1)", x -> x.put(1, 0, 1), BEYOND);
        refused("get(2, 0)", x -> x.get(2, 0), SandGroup.NO);
    }

    private static void ofChanges() {
        for (int bad : new int[] {-1, 9, LEAST, MOST}) {
            refused("count(" + bad + ")", x -> x.count(bad), BAD);
        }
        make = RefusalsTest::stable;
        refused("undo", SandGroup::undo, STATE);
        refused("redo", SandGroup::redo, STATE);
        make = RefusalsTest::tall;
        refused("redo", SandGroup::redo, STATE);
        make = RefusalsTest::stocked;
    }

    private static void whatGridsChange() {
        changes("wall(2, true), as it was", x -> x.wall(2, true), 1);
        changes("wall(0, false), as it was", x -> x.wall(0, false), 0);
        changes("set(0, 9)", x -> x.set(0, 9), 3, "heights", "undo", "redo");
        changes("set(0, 3), as it was", x -> x.set(0, 3), 3, "undo", "redo");
        changes("drop(0, 1)", x -> x.drop(0, 1), 4, "heights", "undo", "redo");
        changes("topple(5)", x -> x.topple(5), 3, "heights", "undo", "redo");
        changes("settle()", SandGroup::settle, make.get().settled(0), "heights", "undo", "redo");
        changes("load(1)", x -> x.load(1), make.get().nought(1), "heights", "undo", "redo");
        changes("undo()", SandGroup::undo, 2, "heights", "undo", "redo");
        changes("redo()", SandGroup::redo, 1, "heights", "undo", "redo");
        String[] withTheGrid = {"grid", "heights", "held piles", "pile 0", "pile 1", "pile 2", "pile 3", "pile 4", "pile 5",
            "undo", "redo"};
        changes("size(3, 4)", x -> x.size(3, 4), 6, withTheGrid);
        changes("wall(0, true)", x -> x.wall(0, true), 0, withTheGrid);
        make = RefusalsTest::stable;
        changes("settle(), stable", SandGroup::settle, 0, "undo");
        make = RefusalsTest::stocked;
    }

    private static void whatPilesChange() {
        changes("keep(0)", x -> x.keep(0), make.get().settled(0), "pile 0");
        changes("keep(4)", x -> x.keep(4), make.get().settled(0), "pile 4", "held piles");
        changes("sum(2, 0, 1)", x -> x.sum(2, 0, 1), make.get().sum(0, 0, 1), "pile 2", "held piles");
        changes("nought(0)", x -> x.nought(0), make.get().nought(1), "pile 0");
        changes("nought(5)", x -> x.nought(5), make.get().nought(1), "pile 5", "held piles");
        changes("nought(1), as it was", x -> x.nought(1), make.get().nought(5));
        changes("times(3, 1, 4)", x -> x.times(3, 1, 4), make.get().nought(1), "pile 3", "held piles");
        changes("opposite(5, 1)", x -> x.opposite(5, 1), make.get().nought(1), "pile 5", "held piles");
    }

    private static void whatListsChange() {
        changes("list(0, 3)", x -> x.list(0, 3), 1, "list 0");
        changes("list(1, 0), as it was", x -> x.list(1, 0), 1);
        changes("list(2, 0)", x -> x.list(2, 0), 1, "list 2");
        changes("put(0, 2, 8)", x -> x.put(0, 2, 8), 1, "list 0");
        changes("put(0, 2, -7), as it was", x -> x.put(0, 2, -7), 1);
        changes("film(2)", x -> x.film(2), 5, "list 2");
        changes("film(3)", x -> x.film(3), 5, "list 3");
        changes("feed", x -> x.feed('9'), 4, "tape");
    }

    /** "What is asked changes nothing." */
    private static void whatIsAsked() {
        changes("height(0)", x -> x.height(0), 3);
        changes("why(2)", x -> x.why(2), 2);
        for (int what : new int[] {0, 1, 2, 3, 4, 105, 205}) {
            changes("settled(" + what + ")", x -> x.settled(what), make.get().settled(what));
        }
        for (int order = 0; order < 4; order++) {
            int by = order;
            changes("trace(" + by + ", 3)", x -> x.trace(by, 3), make.get().trace(by, 3));
            changes("common(0, " + by + ")", x -> x.common(0, by), make.get().common(0, by));
        }
        changes("pile(0, 0)", x -> x.pile(0, 0), make.get().pile(0, 0));
        changes("order(0)", x -> x.order(0), make.get().order(0));
        changes("one(0, 1)", x -> x.one(0, 1), 0);
        changes("group()", SandGroup::group, 712);
        for (int what : new int[] {0, 1, 2, 100}) {
            changes("burn(0, " + what + ")", x -> x.burn(0, what), make.get().burn(0, what));
        }
        changes("through()", SandGroup::through, 712);
        changes("again(0, 0)", x -> x.again(0, 0), make.get().again(0, 0));
        for (int what : new int[] {0, 1, 2, 3, 100, 400}) {
            changes("lots(1, 99, " + what + ")", x -> x.lots(1, 99, what), make.get().lots(1, 99, what));
        }
        changes("judge(0)", x -> x.judge(0), 1);
        changes("steadies(3)", x -> x.steadies(3), make.get().steadies(3));
        changes("get(0, 2)", x -> x.get(0, 2), -7);
        for (int what = 0; what <= 8; what++) {
            int asked = what;
            changes("count(" + what + ")", x -> x.count(asked), make.get().count(what));
        }
        make = RefusalsTest::stable;
        for (int what = 0; what < 4; what++) {
            int asked = what;
            changes("avalanche(0, " + what + ")", x -> x.avalanche(0, asked), make.get().avalanche(0, what));
        }
        make = RefusalsTest::stocked;
    }
}
