import java.util.function.IntUnaryOperator;

/** Ways to bring an object of SandGroup to where a test begins. */
final class Sand {
    private Sand() {
    }

    static int feedAll(SandGroup x, String text) {
        int length = 0;
        for (int i = 0; i < text.length(); i++) {
            length = x.feed(text.charAt(i));
        }
        return length;
    }

    static int readAll(SandGroup x, String text) {
        feedAll(x, text);
        return x.read();
    }

    static SandGroup of(String text) {
        SandGroup x = new SandGroup();
        if (readAll(x, text) < 0) {
            throw new IllegalStateException(text);
        }
        return x;
    }

    /** A grid without walls, with these heights. */
    static SandGroup of(int rows, int columns, int... heights) {
        SandGroup x = new SandGroup();
        x.size(rows, columns);
        for (int cell = 0; cell < heights.length; cell++) {
            x.set(cell, heights[cell]);
        }
        return x;
    }

    static void fillList(SandGroup x, int list, int... values) {
        x.list(list, values.length);
        for (int i = 0; i < values.length; i++) {
            x.put(list, i, values[i]);
        }
    }

    /** Just these cells topple by that order. */
    static void traced(Check check, String what, SandGroup x, int order, int... cells) {
        for (int i = 0; i < cells.length; i++) {
            check.due(what + " trace(" + order + ", " + i + ")", x.trace(order, i), cells[i]);
        }
        check.due(what + " trace(" + order + ") ends", x.trace(order, cells.length), SandGroup.NOT);
    }

    /** The heights cell by cell, a wall as #, rows with / between. */
    static String show(SandGroup x) {
        return show(x, x::height);
    }

    /** As show(), of a pile; - where it holds nothing. */
    static String showPile(SandGroup x, int pile) {
        return show(x, cell -> x.pile(pile, cell));
    }

    private static String show(SandGroup x, IntUnaryOperator heightAt) {
        int cells = x.count(0);
        int columns = x.count(1);
        StringBuilder text = new StringBuilder();
        for (int cell = 0; cell < cells; cell++) {
            if (cell > 0) {
                text.append(cell % columns == 0 ? "/" : " ");
            }
            int height = heightAt.applyAsInt(cell);
            text.append(height == SandGroup.NONE ? "#" : height == SandGroup.EMPTY ? "-" : String.valueOf(height));
        }
        return text.toString();
    }
}
