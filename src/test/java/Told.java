import java.util.LinkedHashMap;
import java.util.Map;
import java.util.Set;
import java.util.TreeSet;

/** All that calls tell of an object, under names, so that it is seen what a call has made otherwise. */
final class Told {
    private static final int NOTHING = -11;

    private final Map<String, String> told = new LinkedHashMap<>();

    /** Takes some 300 calls of the object, whose tape is read by it: the object is spent then. */
    Told(SandGroup x) {
        told.put("grid", x.count(0) + " cells, " + x.count(1) + " columns, " + x.count(2) + " places");
        told.put("heights", Sand.show(x) + ", grains " + x.count(3));
        told.put("held piles", String.valueOf(x.count(4)));
        for (int pile = 0; pile < 6; pile++) {
            told.put("pile " + pile, Sand.showPile(x, pile));
        }
        for (int list = 0; list < 4; list++) {
            told.put("list " + list, row(x, list));
        }
        told.put("why", x.count(6) + ": " + x.why(0) + " " + x.why(1) + " " + x.why(2));
        int undone = x.count(7);
        told.put("undo", undone + ":" + walked(x, undone, true));
        walked(x, undone, false);
        int again = x.count(8);
        told.put("redo", again + ":" + walked(x, again, false));
        told.put("tape", x.count(5) + ": " + taped(x));
    }

    /** The grid that it tells, or why it tells none. */
    private static String taped(SandGroup x) {
        int answer = x.read();
        return answer + " " + (answer < 0 ? x.why(1) + " " + x.why(2) : Sand.show(x));
    }

    private static String row(SandGroup x, int list) {
        // no place is asked for, so that nothing is put
        if (x.put(list, -1, 0) == NOTHING) {
            return "nothing";
        }
        StringBuilder row = new StringBuilder("row");
        for (int i = 0; x.get(list, i) != SandGroup.NO; i++) {
            row.append(' ').append(x.get(list, i));
        }
        return row.toString();
    }

    private static String walked(SandGroup x, int steps, boolean back) {
        StringBuilder way = new StringBuilder();
        for (int k = 0; k < steps; k++) {
            way.append(' ').append(back ? x.undo() : x.redo()).append(" (").append(Sand.show(x)).append(')');
        }
        return way.toString();
    }

    /** The names under which the other tells something else. */
    Set<String> otherThan(Told other) {
        Set<String> names = new TreeSet<>();
        for (String name : told.keySet()) {
            if (!told.get(name).equals(other.told.get(name))) {
                names.add(name);
            }
        }
        return names;
    }
}
