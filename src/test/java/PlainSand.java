import java.util.ArrayDeque;
import java.util.ArrayList;
import java.util.Arrays;
import java.util.HashMap;
import java.util.LinkedHashMap;
import java.util.List;
import java.util.Map;
import java.util.regex.Pattern;

/**
 * The document told a second time, by other ways than SandGroup's: toppling one by
 * one, sums of burning rows, a determinant by expansion, texts by patterns. Only to
 * compare with; it takes what time and room it likes.
 */
final class PlainSand {
    private static final int NONE = -1, BAD = -2, STATE = -3, FULL = -4, NOT = -5, EMPTY = -6;
    private static final int NOTHING = -11, BEYOND = -13, BELOW = -14;
    private static final Map<String, Long> GROUPS = new HashMap<>();

    private int rows = 3;
    private int columns = 3;
    /** A wall is null. */
    private Integer[] heights = zeros(9);
    private final Integer[][] piles = new Integer[6][];
    private final int[][] lists = new int[4][];
    private String tape = "";
    private int[] codes = {};
    private final ArrayDeque<Integer[]> done = new ArrayDeque<>();
    private final ArrayDeque<Integer[]> undone = new ArrayDeque<>();

    private static Integer[] zeros(int n) {
        Integer[] row = new Integer[n];
        Arrays.fill(row, 0);
        return row;
    }

    // ---- helpers

    private boolean isPlace(int cell) {
        return cell >= 0 && cell < heights.length && heights[cell] != null;
    }

    private List<Integer> nexts(int cell) {
        List<Integer> all = new ArrayList<>();
        int[][] ways = {{-1, 0}, {0, -1}, {0, 1}, {1, 0}};
        for (int[] way : ways) {
            int r = cell / columns + way[0];
            int c = cell % columns + way[1];
            if (r >= 0 && r < rows && c >= 0 && c < columns && isPlace(r * columns + c)) {
                all.add(r * columns + c);
            }
        }
        return all;
    }

    private List<Integer> places() {
        List<Integer> all = new ArrayList<>();
        for (int cell = 0; cell < heights.length; cell++) {
            if (isPlace(cell)) {
                all.add(cell);
            }
        }
        return all;
    }

    private static int grains(Integer[] row) {
        int all = 0;
        for (Integer h : row) {
            all += h == null ? 0 : h;
        }
        return all;
    }

    private void newGrid() {
        Arrays.fill(piles, null);
        done.clear();
        undone.clear();
    }

    private void change(Integer[] next) {
        done.addLast(heights);
        if (done.size() > 8) {
            done.removeFirst();
        }
        undone.clear();
        heights = next;
    }

    private void toppleIn(Integer[] row, int cell) {
        row[cell] -= 4;
        for (int next : nexts(cell)) {
            row[next]++;
        }
    }

    /** The last cell that may each time: an order that the document doesn't name. */
    private List<Integer> topplings(Integer[] row) {
        List<Integer> trace = new ArrayList<>();
        boolean more = true;
        while (more) {
            more = false;
            for (int cell = row.length - 1; cell >= 0; cell--) {
                if (row[cell] != null && row[cell] >= 4) {
                    toppleIn(row, cell);
                    trace.add(cell);
                    more = true;
                    break;
                }
            }
        }
        return trace;
    }

    private Integer[] settledCopy(Integer[] row) {
        Integer[] copy = row.clone();
        topplings(copy);
        return copy;
    }

    private int rounds(Integer[] row) {
        for (int round = 0;; round++) {
            List<Integer> ready = new ArrayList<>();
            for (int cell : places()) {
                if (row[cell] >= 4) {
                    ready.add(cell);
                }
            }
            if (ready.isEmpty()) {
                return round;
            }
            for (int cell : ready) {
                toppleIn(row, cell);
            }
        }
    }

    private int lost(List<Integer> trace) {
        int lost = 0;
        for (int cell : trace) {
            lost += 4 - nexts(cell).size();
        }
        return lost;
    }

    private static int bits(List<Integer> cells) {
        int bits = 0;
        for (int cell : cells) {
            bits |= 1 << cell;
        }
        return bits;
    }

    private List<Integer> traceBy(int order, int most) {
        Integer[] row = heights.clone();
        List<Integer> trace = new ArrayList<>();
        List<Integer> line = new ArrayList<>();
        for (int cell : places()) {
            if (row[cell] >= 4) {
                line.add(cell);
            }
        }
        while (!line.isEmpty() && trace.size() < most) {
            int at = 0;
            if (order == 2) {
                at = line.size() - 1;
            } else if (order == 3) {
                for (int i = 1; i < line.size(); i++) {
                    int better = row[line.get(i)] - row[line.get(at)];
                    if (better > 0) {
                        at = i;
                    }
                }
            }
            int cell = line.remove(at);
            toppleIn(row, cell);
            trace.add(cell);
            List<Integer> arrivals = nexts(cell);
            arrivals.add(cell);
            for (int arrival : arrivals) {
                if (row[arrival] >= 4 && !line.contains(arrival)) {
                    line.add(arrival);
                }
            }
            if (order == 0 || order == 3) {
                line.sort(null);
            }
        }
        return trace;
    }

    private Integer[] plus(Integer[] a, Integer[] b) {
        Integer[] both = a.clone();
        for (int cell : places()) {
            both[cell] += b[cell];
        }
        return both;
    }

    /** What is lost at each place, added till nothing changes by it: counts as nothing in the group. */
    private Integer[] noughtPile() {
        Integer[] lossRow = heights.clone();
        Integer[] pile = heights.clone();
        for (int cell : places()) {
            lossRow[cell] = 4 - nexts(cell).size();
            pile[cell] = 0;
        }
        while (true) {
            Integer[] next = settledCopy(plus(pile, lossRow));
            if (Arrays.equals(next, pile)) {
                return pile;
            }
            pile = next;
        }
    }

    /** By tens: k's figures from the first to the last. */
    private Integer[] timesPile(Integer[] of, int k) {
        Integer[] all = noughtPile();
        for (char figure : String.valueOf(k).toCharArray()) {
            Integer[] ten = noughtPile();
            for (int i = 0; i < 10; i++) {
                ten = settledCopy(plus(ten, all));
            }
            all = ten;
            for (int i = '0'; i < figure; i++) {
                all = settledCopy(plus(all, of));
            }
        }
        return all;
    }

    private List<List<Integer>> fires(Integer[] pile) {
        List<List<Integer>> fires = new ArrayList<>();
        List<Integer> left = places();
        while (true) {
            List<Integer> burning = new ArrayList<>();
            for (int cell : left) {
                List<Integer> about = nexts(cell);
                about.retainAll(left);
                if (pile[cell] >= about.size()) {
                    burning.add(cell);
                }
            }
            if (burning.isEmpty()) {
                return fires;
            }
            left.removeAll(burning);
            fires.add(burning);
        }
    }

    private boolean recurrent(Integer[] pile) {
        int burnt = 0;
        for (List<Integer> fire : fires(pile)) {
            burnt += fire.size();
        }
        return burnt == places().size();
    }

    // ---- the grid

    public int size(int r, int c) {
        if (r < 1 || r > 4 || c < 1 || c > 4) {
            return BAD;
        }
        int before = rows * columns;
        rows = r;
        columns = c;
        heights = zeros(r * c);
        newGrid();
        return before;
    }

    public int wall(int cell, boolean is) {
        if (cell < 0 || cell >= heights.length) {
            return NONE;
        }
        boolean was = heights[cell] == null;
        if (was != is) {
            heights = heights.clone();
            heights[cell] = is ? null : Integer.valueOf(0);
            newGrid();
        }
        return was ? 1 : 0;
    }

    public int set(int cell, int v) {
        if (!isPlace(cell)) {
            return NONE;
        }
        if (v < 0 || v > 999) {
            return BAD;
        }
        int before = heights[cell];
        Integer[] next = heights.clone();
        next[cell] = v;
        change(next);
        return before;
    }

    public int height(int cell) {
        return isPlace(cell) ? heights[cell] : NONE;
    }

    public int drop(int cell, int n) {
        if (!isPlace(cell)) {
            return NONE;
        }
        if (n < 1 || n > 99) {
            return BAD;
        }
        if (heights[cell] + n > 999) {
            return FULL;
        }
        Integer[] next = heights.clone();
        next[cell] += n;
        change(next);
        return next[cell];
    }

    public int topple(int cell) {
        if (!isPlace(cell)) {
            return NONE;
        }
        if (heights[cell] < 4) {
            return NOT;
        }
        Integer[] next = heights.clone();
        toppleIn(next, cell);
        int lost = grains(heights) - grains(next);
        change(next);
        return lost;
    }

    public int settle() {
        Integer[] next = heights.clone();
        int size = topplings(next).size();
        change(next);
        return size;
    }

    public int feed(int letter) {
        if (letter < 1 || letter > 127) {
            return BAD;
        }
        if (tape.length() == 40) {
            return FULL;
        }
        tape += (char) letter;
        return tape.length();
    }

    private static boolean isGrid(String text) {
        for (int width = 1; width <= 4; width++) {
            String row = "[#0-9]{" + width + "}";
            if (Pattern.matches(row + "(/" + row + "){0,3}", text)) {
                return true;
            }
        }
        return false;
    }

    /** Whether some grid's text begins so: some rest of a few kinds makes it one. */
    private static boolean goesOn(String text) {
        for (int cells = 0; cells <= 4; cells++) {
            if (isGrid(text + "0".repeat(cells))) {
                return true;
            }
        }
        return false;
    }

    public int read() {
        String text = tape;
        tape = "";
        if (isGrid(text)) {
            codes = new int[0];
            String[] lines = text.split("/");
            rows = lines.length;
            columns = lines[0].length();
            heights = new Integer[rows * columns];
            String cells = text.replace("/", "");
            for (int cell = 0; cell < heights.length; cell++) {
                heights[cell] = cells.charAt(cell) == '#' ? null : Integer.valueOf(cells.charAt(cell) - '0');
            }
            newGrid();
            return heights.length;
        }
        int fault = 0;
        while (fault < text.length() && goesOn(text.substring(0, fault + 1))) {
            fault++;
        }
        String ahead = text.substring(0, fault);
        int slashes = ahead.length() - ahead.replace("/", "").length();
        codes = new int[] {1, 10 + slashes, causeAt(text, fault, ahead, slashes)};
        return -100 - fault;
    }

    private static int causeAt(String text, int fault, String ahead, int slashes) {
        if (fault == text.length()) {
            return 3;
        }
        char c = text.charAt(fault);
        if (c == '#' || (c >= '0' && c <= '9')) {
            return 4;
        }
        return c == '/' && slashes == 3 && isGrid(ahead) ? 5 : 2;
    }

    public int why(int i) {
        return i >= 0 && i < codes.length ? codes[i] : NONE;
    }

    // ---- toppling in thought

    public int settled(int what) {
        Integer[] row = heights.clone();
        List<Integer> trace = topplings(row);
        if (what >= 100 && what < 200 && isPlace(what - 100)) {
            int count = 0;
            for (int cell : trace) {
                count += cell == what - 100 ? 1 : 0;
            }
            return count;
        }
        if (what >= 200 && isPlace(what - 200)) {
            return row[what - 200];
        }
        return switch (what) {
            case 0 -> trace.size();
            case 1 -> lost(trace);
            case 2 -> rounds(heights.clone());
            case 3 -> bits(trace);
            case 4 -> grains(row);
            default -> NONE;
        };
    }

    public int trace(int order, int i) {
        if (order < 0 || order > 3) {
            return NONE;
        }
        if (i < 0) {
            return NOT;
        }
        List<Integer> trace = traceBy(order, Math.min(i, 1000000) + 1);
        return i < trace.size() ? trace.get(i) : NOT;
    }

    public int common(int order, int other) {
        if (order < 0 || order > 3 || other < 0 || other > 3) {
            return NONE;
        }
        List<Integer> a = traceBy(order, 60);
        List<Integer> b = traceBy(other, 60);
        int same = 0;
        for (int i = 0; i < Math.min(a.size(), b.size()); i++) {
            same += a.get(i).equals(b.get(i)) ? 1 : 0;
        }
        return same;
    }

    // ---- piles

    private static boolean isPile(int pile) {
        return pile >= 0 && pile < 6;
    }

    public int keep(int pile) {
        if (!isPile(pile)) {
            return NONE;
        }
        piles[pile] = heights.clone();
        return topplings(piles[pile]).size();
    }

    public int load(int pile) {
        if (!isPile(pile)) {
            return NONE;
        }
        if (piles[pile] == null) {
            return EMPTY;
        }
        change(piles[pile].clone());
        return grains(heights);
    }

    public int pile(int pile, int cell) {
        if (!isPile(pile) || !isPlace(cell)) {
            return NONE;
        }
        return piles[pile] == null ? EMPTY : piles[pile][cell];
    }

    public int sum(int pile, int a, int b) {
        if (!isPile(pile) || !isPile(a) || !isPile(b)) {
            return NONE;
        }
        if (piles[a] == null || piles[b] == null) {
            return EMPTY;
        }
        piles[pile] = plus(piles[a], piles[b]);
        return topplings(piles[pile]).size();
    }

    public int nought(int pile) {
        if (!isPile(pile)) {
            return NONE;
        }
        piles[pile] = noughtPile();
        return grains(piles[pile]);
    }

    public int times(int pile, int of, int k) {
        if (!isPile(pile) || !isPile(of)) {
            return NONE;
        }
        if (k < 0 || k > 1000000000) {
            return BAD;
        }
        if (piles[of] == null) {
            return EMPTY;
        }
        piles[pile] = timesPile(piles[of], k);
        return grains(piles[pile]);
    }

    /** As many times as the group has piles, less one. */
    public int opposite(int pile, int of) {
        if (!isPile(pile) || !isPile(of)) {
            return NONE;
        }
        if (piles[of] == null) {
            return EMPTY;
        }
        piles[pile] = timesPile(piles[of], (int) (group() - 1));
        return grains(piles[pile]);
    }

    public int order(int pile) {
        if (!isPile(pile)) {
            return NONE;
        }
        if (piles[pile] == null) {
            return EMPTY;
        }
        Integer[] nought = noughtPile();
        Integer[] all = nought;
        for (int k = 1; k <= 2000; k++) {
            all = settledCopy(plus(all, piles[pile]));
            if (Arrays.equals(all, nought)) {
                return k;
            }
        }
        return NOT;
    }

    public int one(int a, int b) {
        if (!isPile(a) || !isPile(b)) {
            return NONE;
        }
        if (piles[a] == null || piles[b] == null) {
            return EMPTY;
        }
        if (Arrays.equals(piles[a], piles[b])) {
            return 2;
        }
        return Arrays.equals(timesPile(piles[a], 1), timesPile(piles[b], 1)) ? 1 : 0;
    }

    /** The determinant by expansion, row by row over the sets of columns taken. */
    public long group() {
        StringBuilder key = new StringBuilder().append(columns);
        for (Integer h : heights) {
            key.append(h == null ? '#' : '0');
        }
        return GROUPS.computeIfAbsent(key.toString(), k -> determinant());
    }

    private long determinant() {
        List<Integer> places = places();
        int n = places.size();
        long[] part = new long[1 << n];
        part[0] = 1;
        for (int set = 0; set < part.length; set++) {
            int row = Integer.bitCount(set);
            for (int column = 0; column < n && row < n && part[set] != 0; column++) {
                long entry = row == column ? 4 : nexts(places.get(row)).contains(places.get(column)) ? -1 : 0;
                if (entry != 0 && (set >> column & 1) == 0) {
                    int behind = Integer.bitCount(set >> column);
                    part[set | 1 << column] += (behind % 2 == 0 ? entry : -entry) * part[set];
                }
            }
        }
        return part[part.length - 1];
    }

    // ---- burning

    public int burn(int pile, int what) {
        boolean aCell = what >= 100 && isPlace(what - 100);
        if (!isPile(pile) || (!aCell && (what < 0 || what > 2))) {
            return NONE;
        }
        if (piles[pile] == null) {
            return EMPTY;
        }
        List<List<Integer>> fires = fires(piles[pile]);
        List<Integer> left = places();
        for (int round = 0; round < fires.size(); round++) {
            if (aCell && fires.get(round).contains(what - 100)) {
                return round + 1;
            }
            left.removeAll(fires.get(round));
        }
        if (aCell) {
            return NOT;
        }
        return what == 1 ? fires.size() : what == 2 ? bits(left) : left.isEmpty() ? 1 : 0;
    }

    public int through() {
        List<Integer> places = places();
        if (places.size() > 6) {
            return STATE;
        }
        return through(heights.clone(), places, 0);
    }

    private int through(Integer[] pile, List<Integer> places, int from) {
        if (from == places.size()) {
            return recurrent(pile) ? 1 : 0;
        }
        int many = 0;
        for (int h = 0; h < 4; h++) {
            pile[places.get(from)] = h;
            many += through(pile, places, from + 1);
        }
        return many;
    }

    // ---- grains

    public int avalanche(int cell, int what) {
        if (!isPlace(cell) || what < 0 || what > 3) {
            return NONE;
        }
        for (int place : places()) {
            if (heights[place] > 3) {
                return STATE;
            }
        }
        Integer[] row = heights.clone();
        row[cell]++;
        int rounds = rounds(row.clone());
        List<Integer> trace = topplings(row);
        int[] answers = {trace.size(), bits(trace), lost(trace), rounds};
        return answers[what];
    }

    public int again(int cell, int what) {
        if (!isPlace(cell) || what < 0 || what > 1) {
            return NONE;
        }
        Integer[] row = settledCopy(heights);
        Map<List<Integer>, Integer> seen = new HashMap<>();
        seen.put(Arrays.asList(row.clone()), 0);
        for (int k = 1; k <= 2000; k++) {
            row[cell]++;
            topplings(row);
            Integer was = seen.putIfAbsent(Arrays.asList(row.clone()), k);
            if (was != null) {
                return what == 0 ? k - was : was;
            }
        }
        return NOT;
    }

    public int lots(int seed, int n, int what) {
        if (what < 0 || (what >= 4 && what <= 99)) {
            return NONE;
        }
        if (n < 1 || n > 200) {
            return BAD;
        }
        List<Integer> places = places();
        if (places.isEmpty()) {
            return STATE;
        }
        Integer[] row = settledCopy(heights);
        Map<Integer, Integer> often = new LinkedHashMap<>();
        long z = seed;
        int lost = 0;
        int together = 0;
        int greatest = 0;
        for (int k = 0; k < n; k++) {
            z = Math.floorMod(z * 1103515245L + 12345L, 1L << 32);
            int number = (int) (Math.floorMod(z, 1L << 31) / 65536 % places.size());
            row[places.get(number)]++;
            List<Integer> trace = topplings(row);
            lost += lost(trace);
            together += trace.size();
            greatest = Math.max(greatest, trace.size());
            often.merge(trace.size(), 1, Integer::sum);
        }
        if (what < 4) {
            int[] answers = {lost, together, greatest, often.size()};
            return answers[what];
        }
        int i = what < 400 ? what - 100 : what - 400;
        if (i >= often.size()) {
            return NOT;
        }
        List<Integer> row2 = new ArrayList<>(what < 400 ? often.keySet() : often.values());
        return row2.get(i);
    }

    // ---- scripts

    private static boolean isList(int list) {
        return list >= 0 && list < 4;
    }

    public int judge(int list) {
        if (!isList(list)) {
            return NONE;
        }
        if (lists[list] == null) {
            return NOTHING;
        }
        Integer[] row = heights.clone();
        for (int i = 0; i < lists[list].length; i++) {
            int cell = lists[list][i];
            if (!isPlace(cell) || row[cell] < 4) {
                return i;
            }
            toppleIn(row, cell);
        }
        return NOT;
    }

    public int steadies(int list) {
        if (!isList(list)) {
            return NONE;
        }
        if (lists[list] == null) {
            return NOTHING;
        }
        int[] told = lists[list];
        List<Integer> places = places();
        for (int i = 0; i < places.size(); i++) {
            if (i >= told.length || told[i] < 0 || told[i] > 1000000) {
                return i;
            }
        }
        for (int i = 0; i < places.size(); i++) {
            long left = heights[places.get(i)] - 4L * told[i];
            for (int next : nexts(places.get(i))) {
                left += told[places.indexOf(next)];
            }
            if (left > 3) {
                return i;
            }
        }
        return NOT;
    }

    public int film(int list) {
        if (!isList(list)) {
            return NONE;
        }
        List<Integer> places = places();
        int[] counts = new int[places.size()];
        for (int cell : topplings(heights.clone())) {
            counts[places.indexOf(cell)]++;
        }
        lists[list] = counts;
        return counts.length;
    }

    public int list(int list, int n) {
        if (!isList(list)) {
            return NONE;
        }
        if (n > 40) {
            return BAD;
        }
        if (n < 0) {
            return BELOW;
        }
        lists[list] = new int[n];
        return 1;
    }

    public int put(int list, int i, int v) {
        if (!isList(list)) {
            return NONE;
        }
        if (lists[list] == null) {
            return NOTHING;
        }
        if (i < 0 || i >= lists[list].length) {
            return BEYOND;
        }
        lists[list][i] = v;
        return 1;
    }

    public long get(int list, int i) {
        boolean there = isList(list) && lists[list] != null && i >= 0 && i < lists[list].length;
        return there ? lists[list][i] : Long.MIN_VALUE;
    }

    // ---- changes

    public int undo() {
        if (done.isEmpty()) {
            return STATE;
        }
        undone.addLast(heights);
        heights = done.removeLast();
        return done.size();
    }

    public int redo() {
        if (undone.isEmpty()) {
            return STATE;
        }
        done.addLast(heights);
        heights = undone.removeLast();
        return undone.size();
    }

    public int count(int what) {
        int held = 0;
        for (Integer[] pile : piles) {
            held += pile == null ? 0 : 1;
        }
        int[] answers = {heights.length, columns, places().size(), grains(heights), held, tape.length(), codes.length,
            done.size(), undone.size()};
        return what >= 0 && what < answers.length ? answers[what] : BAD;
    }
}
