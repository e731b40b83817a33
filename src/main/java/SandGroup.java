import java.util.Arrays;

/**
 * Sand on a small grid with walls, whose piles topple, and the group that the
 * stable piles make. The words in the comments are those of shared/DOC.md.
 */
public final class SandGroup {
    public static final int NONE = -1, BAD = -2, STATE = -3, FULL = -4, NOT = -5, EMPTY = -6;
    public static final long NO = Long.MIN_VALUE;

    private static final int NOTHING = -11, BEYOND = -13, BELOW = -14;

    private static final int SIDE = 4, CELLS = SIDE * SIDE, TOP = 999, MOST_DROP = 99;
    private static final int PILES = 6, LISTS = 4, LIST_LENGTH = 40, MOST_TOLD = 1000000;
    private static final int ORDERS = 4, COMPARED = 60, MOST_TIMES = 1000000000;
    private static final int MOST_GRAINS = 2000, MOST_LOTS = 200, WALKED_PLACES = 6;
    private static final int COUNTS_FROM = 100, HEIGHTS_FROM = 200;
    private static final int SIZES_FROM = 100, OFTEN_FROM = 400;

    /** Far above what any settling needs: the most grains there can be topple some 25,000 times. */
    private static final int LIMIT = 1000000;

    private final Grid grid;
    private final int[] heights;
    private final Changes changes;
    private final Tape tape;
    private final Shelf piles;
    private final Shelf lists;
    private final Fall fall;
    private final March march;
    private final March otherMarch;
    private final Sums sums;
    private final Fire fire;
    private final Matrix matrix;
    private final Seen seen;
    private final Tally tally;
    private final int[] walked;

    public SandGroup() {
        grid = new Grid(3, 3);
        heights = new int[CELLS];
        changes = new Changes();
        tape = new Tape();
        piles = new Shelf(PILES, CELLS);
        lists = new Shelf(LISTS, LIST_LENGTH);
        fall = new Fall(grid);
        march = new March(grid);
        otherMarch = new March(grid);
        sums = new Sums(grid, fall);
        fire = new Fire(grid);
        matrix = new Matrix();
        seen = new Seen();
        tally = new Tally();
        walked = new int[CELLS];
    }

    // ---- the grid

    public int size(int r, int c) {
        if (r < 1 || r > SIDE || c < 1 || c > SIDE) {
            return BAD;
        }
        int before = grid.cellCount();
        grid.shape(r, c);
        Arrays.fill(heights, 0);
        forgetPilesAndChanges();
        return before;
    }

    public int wall(int cell, boolean is) {
        if (!grid.isCell(cell)) {
            return NONE;
        }
        boolean was = !grid.isPlace(cell);
        if (was != is) {
            grid.build(cell, is);
            heights[cell] = 0;
            forgetPilesAndChanges();
        }
        return was ? 1 : 0;
    }

    public int set(int cell, int v) {
        if (!grid.isPlace(cell)) {
            return NONE;
        }
        if (v < 0 || v > TOP) {
            return BAD;
        }
        int before = heights[cell];
        heights[cell] = v;
        changes.note(heights);
        return before;
    }

    public int height(int cell) {
        return grid.isPlace(cell) ? heights[cell] : NONE;
    }

    public int drop(int cell, int n) {
        if (!grid.isPlace(cell)) {
            return NONE;
        }
        if (n < 1 || n > MOST_DROP) {
            return BAD;
        }
        if (heights[cell] + n > TOP) {
            return FULL;
        }
        heights[cell] += n;
        changes.note(heights);
        return heights[cell];
    }

    public int topple(int cell) {
        if (!grid.isPlace(cell)) {
            return NONE;
        }
        if (heights[cell] < 4) {
            return NOT;
        }
        grid.spill(heights, cell, 1);
        changes.note(heights);
        return grid.lossAt(cell);
    }

    public int settle() {
        fall.begin(heights);
        int toppled = fall.level();
        fall.copyTo(heights);
        changes.note(heights);
        return toppled;
    }

    public int feed(int letter) {
        if (letter < 1 || letter > 127) {
            return BAD;
        }
        return tape.isFull() ? FULL : tape.append(letter);
    }

    public int read() {
        int fault = tape.parse();
        tape.rewind();
        if (fault >= 0) {
            return -100 - fault;
        }
        grid.shape(tape.rowCount(), tape.columnCount());
        for (int cell = 0; cell < CELLS; cell++) {
            heights[cell] = 0;
            if (grid.isCell(cell)) {
                lay(cell, tape.valueAt(cell));
            }
        }
        forgetPilesAndChanges();
        return grid.cellCount();
    }

    public int why(int i) {
        return tape.codeAt(i);
    }

    // ---- toppling in thought

    public int settled(int what) {
        if (what == 2) {
            fall.begin(heights);
            return fall.inRounds();
        }
        boolean aCount = grid.isPlace(what - COUNTS_FROM);
        boolean aHeight = grid.isPlace(what - HEIGHTS_FROM);
        if (!aCount && !aHeight && (what < 0 || what > 4)) {
            return NONE;
        }
        fall.begin(heights);
        int toppled = fall.level();
        if (aCount) {
            return fall.countAt(what - COUNTS_FROM);
        }
        if (aHeight) {
            return fall.heightAt(what - HEIGHTS_FROM);
        }
        switch (what) {
            case 0:
                return toppled;
            case 1:
                return fall.lost();
            case 3:
                return fall.area();
            default:
                return fall.grains();
        }
    }

    public int trace(int order, int i) {
        if (!isOrder(order)) {
            return NONE;
        }
        fall.begin(heights);
        if (i < 0 || i >= fall.level() || i >= LIMIT) {
            return NOT;
        }
        march.begin(heights, order);
        int cell = NOT;
        for (int k = 0; k <= i; k++) {
            cell = march.step();
        }
        return cell;
    }

    public int common(int order, int other) {
        if (!isOrder(order) || !isOrder(other)) {
            return NONE;
        }
        march.begin(heights, order);
        otherMarch.begin(heights, other);
        int same = 0;
        for (int k = 0; k < COMPARED; k++) {
            int cell = march.step();
            int otherCell = otherMarch.step();
            if (cell >= 0 && cell == otherCell) {
                same++;
            }
        }
        return same;
    }

    // ---- piles

    public int keep(int pile) {
        if (!piles.has(pile)) {
            return NONE;
        }
        fall.begin(heights);
        int toppled = fall.level();
        fall.copyTo(piles.hold(pile, CELLS));
        return toppled;
    }

    public int load(int pile) {
        if (!piles.has(pile)) {
            return NONE;
        }
        if (!piles.holds(pile)) {
            return EMPTY;
        }
        System.arraycopy(piles.rowAt(pile), 0, heights, 0, CELLS);
        changes.note(heights);
        return grid.grainsOf(heights);
    }

    public int pile(int pile, int cell) {
        if (!piles.has(pile) || !grid.isPlace(cell)) {
            return NONE;
        }
        return piles.holds(pile) ? piles.rowAt(pile)[cell] : EMPTY;
    }

    public int sum(int pile, int a, int b) {
        if (!piles.has(pile) || !piles.has(a) || !piles.has(b)) {
            return NONE;
        }
        if (!piles.holds(a) || !piles.holds(b)) {
            return EMPTY;
        }
        int toppled = sums.add(piles.rowAt(a), piles.rowAt(b));
        fall.copyTo(piles.hold(pile, CELLS));
        return toppled;
    }

    public int nought(int pile) {
        if (!piles.has(pile)) {
            return NONE;
        }
        sums.startAtNought();
        return holdResult(pile);
    }

    public int times(int pile, int of, int k) {
        if (!piles.has(pile) || !piles.has(of)) {
            return NONE;
        }
        if (k < 0 || k > MOST_TIMES) {
            return BAD;
        }
        if (!piles.holds(of)) {
            return EMPTY;
        }
        sums.multiply(piles.rowAt(of), k);
        return holdResult(pile);
    }

    public int opposite(int pile, int of) {
        if (!piles.has(pile) || !piles.has(of)) {
            return NONE;
        }
        if (!piles.holds(of)) {
            return EMPTY;
        }
        sums.negate(piles.rowAt(of));
        return holdResult(pile);
    }

    public int order(int pile) {
        if (!piles.has(pile)) {
            return NONE;
        }
        if (!piles.holds(pile)) {
            return EMPTY;
        }
        int least = sums.leastToNought(piles.rowAt(pile), MOST_GRAINS);
        return least > 0 ? least : NOT;
    }

    public int one(int a, int b) {
        if (!piles.has(a) || !piles.has(b)) {
            return NONE;
        }
        if (!piles.holds(a) || !piles.holds(b)) {
            return EMPTY;
        }
        if (alike(piles.rowAt(a), piles.rowAt(b))) {
            return 2;
        }
        return sums.areOne(piles.rowAt(a), piles.rowAt(b)) ? 1 : 0;
    }

    public long group() {
        return matrix.determinant(grid);
    }

    // ---- burning

    public int burn(int pile, int what) {
        boolean aRound = grid.isPlace(what - COUNTS_FROM);
        if (!piles.has(pile) || (!aRound && (what < 0 || what > 2))) {
            return NONE;
        }
        if (!piles.holds(pile)) {
            return EMPTY;
        }
        int rounds = fire.spread(piles.rowAt(pile));
        if (aRound) {
            int round = fire.roundAt(what - COUNTS_FROM);
            return round > 0 ? round : NOT;
        }
        if (what == 1) {
            return rounds;
        }
        int left = fire.unburnt();
        return what == 2 ? left : left == 0 ? 1 : 0;
    }

    public int through() {
        if (grid.placeCount() > WALKED_PLACES) {
            return STATE;
        }
        int all = 1 << (2 * grid.placeCount());
        int recurrent = 0;
        for (int code = 0; code < all; code++) {
            grid.unpack(code, walked);
            fire.spread(walked);
            if (fire.unburnt() == 0) {
                recurrent++;
            }
        }
        return recurrent;
    }

    // ---- grains

    public int avalanche(int cell, int what) {
        if (!grid.isPlace(cell) || what < 0 || what > 3) {
            return NONE;
        }
        if (!grid.isStable(heights)) {
            return STATE;
        }
        fall.begin(heights);
        fall.addGrain(cell);
        int rounds = fall.inRounds();
        switch (what) {
            case 0:
                return fall.toppled();
            case 1:
                return fall.area();
            case 2:
                return fall.lost();
            default:
                return rounds;
        }
    }

    public int again(int cell, int what) {
        if (!grid.isPlace(cell) || what < 0 || what > 1) {
            return NONE;
        }
        fall.begin(heights);
        fall.level();
        seen.clear();
        seen.add(fall.code());
        for (int grains = 1; grains <= MOST_GRAINS; grains++) {
            fall.addGrain(cell);
            fall.level();
            int code = fall.code();
            int ahead = seen.find(code);
            if (ahead >= 0) {
                return what == 0 ? grains - ahead : ahead;
            }
            seen.add(code);
        }
        return NOT;
    }

    public int lots(int seed, int n, int what) {
        if (what < 0 || (what > 3 && what < SIZES_FROM)) {
            return NONE;
        }
        if (n < 1 || n > MOST_LOTS) {
            return BAD;
        }
        if (grid.placeCount() == 0) {
            return STATE;
        }
        scatter(seed, n);
        switch (what) {
            case 0:
                return fall.lost();
            case 1:
                return tally.together();
            case 2:
                return tally.greatest();
            case 3:
                return tally.unlike();
            default:
                return what < OFTEN_FROM
                        ? tally.sizeAt(what - SIZES_FROM) : tally.oftenAt(what - OFTEN_FROM);
        }
    }

    // ---- scripts

    public int judge(int list) {
        if (!lists.has(list)) {
            return NONE;
        }
        if (!lists.holds(list)) {
            return NOTHING;
        }
        int[] script = lists.rowAt(list);
        fall.begin(heights);
        for (int i = 0; i < lists.lengthOf(list); i++) {
            if (!fall.toppleOnce(script[i])) {
                return i;
            }
        }
        return NOT;
    }

    public int steadies(int list) {
        if (!lists.has(list)) {
            return NONE;
        }
        if (!lists.holds(list)) {
            return NOTHING;
        }
        int[] told = lists.rowAt(list);
        int untold = firstUntold(told, lists.lengthOf(list));
        return untold >= 0 ? untold : firstUnsteady(told);
    }

    public int film(int list) {
        if (!lists.has(list)) {
            return NONE;
        }
        int many = grid.placeCount();
        fall.begin(heights);
        fall.level();
        int[] row = lists.hold(list, many);
        for (int number = 0; number < many; number++) {
            row[number] = fall.countAt(grid.placeAt(number));
        }
        return many;
    }

    public int list(int list, int n) {
        if (!lists.has(list)) {
            return NONE;
        }
        if (n > LIST_LENGTH) {
            return BAD;
        }
        if (n < 0) {
            return BELOW;
        }
        Arrays.fill(lists.hold(list, n), 0);
        return 1;
    }

    public int put(int list, int i, int v) {
        if (!lists.has(list)) {
            return NONE;
        }
        if (!lists.holds(list)) {
            return NOTHING;
        }
        if (i < 0 || i >= lists.lengthOf(list)) {
            return BEYOND;
        }
        lists.rowAt(list)[i] = v;
        return 1;
    }

    public long get(int list, int i) {
        if (!lists.has(list) || i < 0 || i >= lists.lengthOf(list)) {
            return NO;
        }
        return lists.rowAt(list)[i];
    }

    // ---- changes

    public int undo() {
        return changes.undoable() > 0 ? changes.back(heights) : STATE;
    }

    public int redo() {
        return changes.redoable() > 0 ? changes.forth(heights) : STATE;
    }

    public int count(int what) {
        switch (what) {
            case 0:
                return grid.cellCount();
            case 1:
                return grid.columnCount();
            case 2:
                return grid.placeCount();
            case 3:
                return grid.grainsOf(heights);
            case 4:
                return piles.heldCount();
            case 5:
                return tape.length();
            case 6:
                return tape.codeCount();
            case 7:
                return changes.undoable();
            case 8:
                return changes.redoable();
            default:
                return BAD;
        }
    }

    // ---- what several calls share

    private static boolean isOrder(int order) {
        return order >= 0 && order < ORDERS;
    }

    /** Cells that are no place hold 0 in every row, so whole rows can be compared. */
    private static boolean alike(int[] a, int[] b) {
        for (int cell = 0; cell < CELLS; cell++) {
            if (a[cell] != b[cell]) {
                return false;
            }
        }
        return true;
    }

    private void forgetPilesAndChanges() {
        piles.clear();
        changes.restart(heights);
    }

    private void lay(int cell, int value) {
        if (value == Tape.WALL) {
            grid.build(cell, true);
        } else {
            heights[cell] = value;
        }
    }

    private int holdResult(int pile) {
        int[] row = piles.hold(pile, CELLS);
        sums.copyResultTo(row);
        return grid.grainsOf(row);
    }

    private void scatter(int seed, int n) {
        int many = grid.placeCount();
        fall.begin(heights);
        fall.level();
        fall.forgetCounts();
        tally.clear();
        int z = seed;
        for (int k = 0; k < n && many > 0; k++) {
            z = z * 1103515245 + 12345;
            int number = ((z & 0x7FFFFFFF) / 65536) % many;
            fall.addGrain(grid.placeAt(number));
            tally.add(fall.level());
        }
    }

    private int firstUntold(int[] told, int length) {
        for (int number = 0; number < grid.placeCount(); number++) {
            if (number >= length || told[number] < 0 || told[number] > MOST_TOLD) {
                return number;
            }
        }
        return NONE;
    }

    private int firstUnsteady(int[] told) {
        for (int number = 0; number < grid.placeCount(); number++) {
            int cell = grid.placeAt(number);
            int left = heights[cell] - 4 * told[number];
            for (int side = 0; side < grid.nextCount(cell); side++) {
                left += told[grid.numberOf(grid.nextAt(cell, side))];
            }
            if (left > 3) {
                return number;
            }
        }
        return NOT;
    }

    /** The cells, which of them are walls, and which places stand next to which. */
    private static final class Grid {
        private final int[] walls = new int[CELLS];
        private final int[] places = new int[CELLS];
        private final int[] numbers = new int[CELLS];
        private final int[] nexts = new int[CELLS * 4];
        private final int[] nextCounts = new int[CELLS];
        private int rows;
        private int columns;
        private int placeCount;

        Grid(int r, int c) {
            shape(r, c);
        }

        void shape(int r, int c) {
            rows = r;
            columns = c;
            Arrays.fill(walls, 0);
            link();
        }

        void build(int cell, boolean isWall) {
            walls[cell] = isWall ? 1 : 0;
            link();
        }

        private void link() {
            placeCount = 0;
            for (int r = 0; r < rows; r++) {
                for (int c = 0; c < columns; c++) {
                    int cell = r * columns + c;
                    numbers[cell] = placeCount;
                    if (walls[cell] == 0) {
                        places[placeCount] = cell;
                        placeCount++;
                    }
                    linkCell(cell, r, c);
                }
            }
        }

        private void linkCell(int cell, int r, int c) {
            nextCounts[cell] = 0;
            if (r > 0) {
                join(cell, cell - columns);
            }
            if (c > 0) {
                join(cell, cell - 1);
            }
            if (c + 1 < columns) {
                join(cell, cell + 1);
            }
            if (r + 1 < rows) {
                join(cell, cell + columns);
            }
        }

        private void join(int cell, int other) {
            if (walls[other] == 0) {
                nexts[cell * 4 + nextCounts[cell]] = other;
                nextCounts[cell]++;
            }
        }

        int cellCount() {
            return rows * columns;
        }

        int columnCount() {
            return columns;
        }

        int placeCount() {
            return placeCount;
        }

        boolean isCell(int cell) {
            return cell >= 0 && cell < rows * columns;
        }

        boolean isPlace(int cell) {
            return isCell(cell) && walls[cell] == 0;
        }

        int placeAt(int number) {
            return places[number];
        }

        int numberOf(int cell) {
            return numbers[cell];
        }

        int nextCount(int cell) {
            return nextCounts[cell];
        }

        int nextAt(int cell, int side) {
            return nexts[cell * 4 + side];
        }

        int lossAt(int cell) {
            return 4 - nextCounts[cell];
        }

        /** A place topples so many times at once. */
        void spill(int[] row, int cell, int times) {
            row[cell] -= 4 * times;
            int first = cell * 4;
            int behind = first + nextCounts[cell];
            for (int i = first; i < behind; i++) {
                row[nexts[i]] += times;
            }
        }

        int grainsOf(int[] row) {
            int grains = 0;
            for (int number = 0; number < placeCount; number++) {
                grains += row[places[number]];
            }
            return grains;
        }

        boolean isStable(int[] row) {
            for (int number = 0; number < placeCount; number++) {
                if (row[places[number]] > 3) {
                    return false;
                }
            }
            return true;
        }

        /** A stable pile as one int: two bits a place, that of number 0 the lowest. */
        int pack(int[] row) {
            int code = 0;
            for (int number = placeCount - 1; number >= 0; number--) {
                code = (code << 2) | row[places[number]];
            }
            return code;
        }

        void unpack(int code, int[] row) {
            int rest = code;
            for (int number = 0; number < placeCount; number++) {
                row[places[number]] = rest & 3;
                rest >>>= 2;
            }
        }
    }

    /** Heights that topple in thought, and how often each place did. */
    private static final class Fall {
        private final Grid grid;
        private final int[] heights = new int[CELLS];
        private final int[] counts = new int[CELLS];

        Fall(Grid grid) {
            this.grid = grid;
        }

        void begin(int[] from) {
            System.arraycopy(from, 0, heights, 0, CELLS);
            Arrays.fill(counts, 0);
        }

        void forgetCounts() {
            Arrays.fill(counts, 0);
        }

        void addGrain(int cell) {
            heights[cell]++;
        }

        /**
         * Settles, and tells how often places toppled by it. As the order doesn't
         * matter for that, a place topples as often as it may each time it is met.
         */
        int level() {
            int[] places = grid.places;
            int many = grid.placeCount;
            int toppled = 0;
            boolean moved = true;
            for (int sweep = 0; moved && sweep < LIMIT; sweep++) {
                moved = false;
                for (int number = 0; number < many; number++) {
                    int cell = places[number];
                    if (heights[cell] > 3) {
                        int times = heights[cell] / 4;
                        grid.spill(heights, cell, times);
                        counts[cell] += times;
                        toppled += times;
                        moved = true;
                    }
                }
            }
            return toppled;
        }

        /** Settles round by round, and tells how many rounds there were. */
        int inRounds() {
            int rounds = 0;
            int ready = readyBits();
            while (ready != 0 && rounds < LIMIT) {
                for (int cell = 0; cell < CELLS; cell++) {
                    if ((ready >> cell & 1) != 0) {
                        grid.spill(heights, cell, 1);
                        counts[cell]++;
                    }
                }
                rounds++;
                ready = readyBits();
            }
            return rounds;
        }

        private int readyBits() {
            int bits = 0;
            for (int number = 0; number < grid.placeCount(); number++) {
                int cell = grid.placeAt(number);
                if (heights[cell] > 3) {
                    bits |= 1 << cell;
                }
            }
            return bits;
        }

        boolean toppleOnce(int cell) {
            if (!grid.isPlace(cell) || heights[cell] < 4) {
                return false;
            }
            grid.spill(heights, cell, 1);
            return true;
        }

        void copyTo(int[] row) {
            System.arraycopy(heights, 0, row, 0, CELLS);
        }

        int code() {
            return grid.pack(heights);
        }

        int grains() {
            return grid.grainsOf(heights);
        }

        int heightAt(int cell) {
            return heights[cell];
        }

        int countAt(int cell) {
            return counts[cell];
        }

        int toppled() {
            return grid.grainsOf(counts);
        }

        int lost() {
            int lost = 0;
            for (int number = 0; number < grid.placeCount(); number++) {
                int cell = grid.placeAt(number);
                lost += counts[cell] * grid.lossAt(cell);
            }
            return lost;
        }

        int area() {
            int bits = 0;
            for (int cell = 0; cell < CELLS; cell++) {
                if (counts[cell] > 0) {
                    bits |= 1 << cell;
                }
            }
            return bits;
        }
    }

    /** Toppling one by one in one of the orders. */
    private static final class March {
        private static final int LEAST = 0, QUEUE = 1, STACK = 2;

        private final Grid grid;
        private final int[] heights = new int[CELLS];
        /** The row of QUEUE and STACK, as a ring: no cell stands in it twice. */
        private final int[] ring = new int[CELLS];
        private int order;
        private int first;
        private int length;
        private int standing;

        March(Grid grid) {
            this.grid = grid;
        }

        void begin(int[] from, int by) {
            System.arraycopy(from, 0, heights, 0, CELLS);
            order = by;
            first = 0;
            length = 0;
            standing = 0;
            if (order == QUEUE || order == STACK) {
                for (int number = 0; number < grid.placeCount(); number++) {
                    lineUp(grid.placeAt(number));
                }
            }
        }

        /** The cell that toppled now, or NONE. */
        int step() {
            int cell = chosen();
            if (cell < 0) {
                return NONE;
            }
            grid.spill(heights, cell, 1);
            if (order == QUEUE || order == STACK) {
                for (int side = 0; side < grid.nextCount(cell); side++) {
                    lineUp(grid.nextAt(cell, side));
                }
                lineUp(cell);
            }
            return cell;
        }

        private int chosen() {
            switch (order) {
                case LEAST:
                    return leastCell();
                case QUEUE:
                    return leave(true);
                case STACK:
                    return leave(false);
                default:
                    return tallestCell();
            }
        }

        private int leastCell() {
            for (int number = 0; number < grid.placeCount(); number++) {
                int cell = grid.placeAt(number);
                if (heights[cell] > 3) {
                    return cell;
                }
            }
            return NONE;
        }

        private int tallestCell() {
            int tallest = NONE;
            int most = 3;
            for (int number = 0; number < grid.placeCount(); number++) {
                int cell = grid.placeAt(number);
                if (heights[cell] > most) {
                    most = heights[cell];
                    tallest = cell;
                }
            }
            return tallest;
        }

        private int leave(boolean atFront) {
            if (length == 0) {
                return NONE;
            }
            int spot = atFront ? first : (first + length - 1) % CELLS;
            if (atFront) {
                first = (first + 1) % CELLS;
            }
            length--;
            standing &= ~(1 << ring[spot]);
            return ring[spot];
        }

        private void lineUp(int cell) {
            boolean stands = (standing >> cell & 1) != 0;
            if (!stands && heights[cell] > 3) {
                ring[(first + length) % CELLS] = cell;
                length++;
                standing |= 1 << cell;
            }
        }
    }

    /** Rows of ints by number, each of which holds something or nothing. */
    private static final class Shelf {
        private final int[][] rows;
        private final int[] lengths;

        Shelf(int many, int width) {
            rows = new int[many][width];
            lengths = new int[many];
            clear();
        }

        void clear() {
            Arrays.fill(lengths, -1);
        }

        boolean has(int i) {
            return i >= 0 && i < lengths.length;
        }

        boolean holds(int i) {
            return lengths[i] >= 0;
        }

        /** Below 0 where nothing is held, so that no place is within it. */
        int lengthOf(int i) {
            return lengths[i];
        }

        int[] rowAt(int i) {
            return rows[i];
        }

        int[] hold(int i, int length) {
            lengths[i] = length;
            return rows[i];
        }

        int heldCount() {
            int held = 0;
            for (int i = 0; i < lengths.length; i++) {
                if (lengths[i] >= 0) {
                    held++;
                }
            }
            return held;
        }
    }

    /** The reckoning with stable piles. */
    private static final class Sums {
        private final Grid grid;
        private final Fall fall;
        private final int[] nought = new int[CELLS];
        private final int[] result = new int[CELLS];
        private final int[] other = new int[CELLS];
        private final int[] both = new int[CELLS];

        Sums(Grid grid, Fall fall) {
            this.grid = grid;
            this.fall = fall;
        }

        /** The sum is left in the fall: how often places toppled. */
        int add(int[] a, int[] b) {
            for (int cell = 0; cell < CELLS; cell++) {
                both[cell] = a[cell] + b[cell];
            }
            fall.begin(both);
            return fall.level();
        }

        private void addInto(int[] target, int[] a, int[] b) {
            add(a, b);
            fall.copyTo(target);
        }

        void copyResultTo(int[] row) {
            System.arraycopy(result, 0, row, 0, CELLS);
        }

        void startAtNought() {
            layFullZero();
            settleResult();
            copyResultTo(nought);
        }

        /**
         * Six everywhere less what six everywhere settles to: it counts as nothing in
         * the group and has 3 or more at each place, so that it settles to NOUGHT.
         */
        private void layFullZero() {
            Arrays.fill(result, 0);
            for (int number = 0; number < grid.placeCount(); number++) {
                result[grid.placeAt(number)] = 6;
            }
            fall.begin(result);
            fall.level();
            for (int cell = 0; cell < CELLS; cell++) {
                result[cell] -= fall.heightAt(cell);
            }
        }

        private void settleResult() {
            fall.begin(result);
            fall.level();
            fall.copyTo(result);
        }

        /** By doublings: k may be too great to add one by one. */
        void multiply(int[] of, int k) {
            startAtNought();
            System.arraycopy(of, 0, other, 0, CELLS);
            int rest = k;
            for (int bit = 0; bit < 31 && rest > 0; bit++) {
                if ((rest & 1) != 0) {
                    addInto(result, result, other);
                }
                addInto(other, other, other);
                rest >>= 1;
            }
        }

        /** The full zero takes the pile off everywhere; NOUGHT makes the rest recurrent. */
        void negate(int[] of) {
            startAtNought();
            layFullZero();
            for (int cell = 0; cell < CELLS; cell++) {
                result[cell] += nought[cell] - of[cell];
            }
            settleResult();
        }

        /** How many of the pile make NOUGHT, or 0 if more than the most do. */
        int leastToNought(int[] of, int most) {
            startAtNought();
            for (int k = 1; k <= most; k++) {
                addInto(result, result, of);
                if (alike(result, nought)) {
                    return k;
                }
            }
            return 0;
        }

        boolean areOne(int[] a, int[] b) {
            startAtNought();
            addInto(result, nought, a);
            addInto(other, nought, b);
            return alike(result, other);
        }
    }

    /** Burning of a stable pile, round by round. */
    private static final class Fire {
        private final Grid grid;
        /** The round in which a place burnt; 0: it has not. */
        private final int[] rounds = new int[CELLS];

        Fire(Grid grid) {
            this.grid = grid;
        }

        /** How many rounds burnt something: at most one for each place. */
        int spread(int[] pile) {
            Arrays.fill(rounds, 0);
            for (int round = 1; round <= CELLS; round++) {
                if (!burnOnce(pile, round)) {
                    return round - 1;
                }
            }
            return CELLS;
        }

        private boolean burnOnce(int[] pile, int round) {
            boolean burnt = false;
            for (int number = 0; number < grid.placeCount(); number++) {
                int cell = grid.placeAt(number);
                if (rounds[cell] == 0 && pile[cell] >= unburntNextTo(cell, round)) {
                    rounds[cell] = round;
                    burnt = true;
                }
            }
            return burnt;
        }

        /** What burns in this very round had not burnt as it began. */
        private int unburntNextTo(int cell, int round) {
            int many = 0;
            for (int side = 0; side < grid.nextCount(cell); side++) {
                int at = rounds[grid.nextAt(cell, side)];
                if (at == 0 || at == round) {
                    many++;
                }
            }
            return many;
        }

        int roundAt(int cell) {
            return rounds[cell];
        }

        int unburnt() {
            int bits = 0;
            for (int number = 0; number < grid.placeCount(); number++) {
                int cell = grid.placeAt(number);
                if (rounds[cell] == 0) {
                    bits |= 1 << cell;
                }
            }
            return bits;
        }
    }

    /** Counts the recurrent piles: as many as the determinant of the toppling rule. */
    private static final class Matrix {
        private final long[] entries = new long[CELLS * CELLS];

        /**
         * By elimination without fractions. The matrix is symmetric and positive, so
         * no pivot is 0, and no product of two entries goes beyond 4 to the 30th.
         */
        long determinant(Grid grid) {
            int n = grid.placeCount();
            if (n == 0) {
                return 1;
            }
            fillFrom(grid, n);
            long before = 1;
            for (int k = 0; k + 1 < n; k++) {
                eliminate(n, k, before);
                before = entries[k * n + k];
            }
            return entries[n * n - 1];
        }

        private void fillFrom(Grid grid, int n) {
            Arrays.fill(entries, 0);
            for (int i = 0; i < n; i++) {
                int cell = grid.placeAt(i);
                entries[i * n + i] = 4;
                for (int side = 0; side < grid.nextCount(cell); side++) {
                    entries[i * n + grid.numberOf(grid.nextAt(cell, side))] = -1;
                }
            }
        }

        private void eliminate(int n, int k, long before) {
            if (before == 0) {
                return;
            }
            long pivot = entries[k * n + k];
            for (int i = k + 1; i < n; i++) {
                long lead = entries[i * n + k];
                for (int j = k + 1; j < n; j++) {
                    long cross = entries[i * n + j] * pivot - lead * entries[k * n + j];
                    entries[i * n + j] = cross / before;
                }
            }
        }
    }

    /** Which piles, as codes, came behind how many grains. */
    private static final class Seen {
        private static final int CHAINS = 256;

        private final int[] codes = new int[MOST_GRAINS + 1];
        private final int[] links = new int[MOST_GRAINS + 1];
        private final int[] heads = new int[CHAINS];
        private int length;

        void clear() {
            Arrays.fill(heads, -1);
            length = 0;
        }

        void add(int code) {
            if (length < codes.length) {
                int chain = chainOf(code);
                codes[length] = code;
                links[length] = heads[chain];
                heads[chain] = length;
                length++;
            }
        }

        int find(int code) {
            int at = heads[chainOf(code)];
            for (int k = 0; k < length && at >= 0; k++) {
                if (codes[at] == code) {
                    return at;
                }
                at = links[at];
            }
            return NONE;
        }

        /** The top eight bits of a product in which all bits of the code are mixed. */
        private static int chainOf(int code) {
            return (code * 0x9E3779B1) >>> 24;
        }
    }

    /** Sizes of avalanches: the unlike ones as they came first, and how often each. */
    private static final class Tally {
        private final int[] sizes = new int[MOST_LOTS];
        private final int[] often = new int[MOST_LOTS];
        private int unlike;
        private int together;
        private int greatest;

        void clear() {
            unlike = 0;
            together = 0;
            greatest = 0;
        }

        void add(int size) {
            together += size;
            greatest = Math.max(greatest, size);
            for (int i = 0; i < unlike; i++) {
                if (sizes[i] == size) {
                    often[i]++;
                    return;
                }
            }
            if (unlike < sizes.length) {
                sizes[unlike] = size;
                often[unlike] = 1;
                unlike++;
            }
        }

        int unlike() {
            return unlike;
        }

        int together() {
            return together;
        }

        int greatest() {
            return greatest;
        }

        int sizeAt(int i) {
            return i >= 0 && i < unlike ? sizes[i] : NOT;
        }

        int oftenAt(int i) {
            return i >= 0 && i < unlike ? often[i] : NOT;
        }
    }

    /** The heights behind each of the latest changes, and which of these stand now. */
    private static final class Changes {
        private static final int KEPT = 8;

        private final int[][] states = new int[KEPT + 1][CELLS];
        private int now;
        private int last;

        void restart(int[] heights) {
            now = 0;
            last = 0;
            System.arraycopy(heights, 0, states[0], 0, CELLS);
        }

        void note(int[] heights) {
            if (now == KEPT) {
                for (int i = 0; i < KEPT; i++) {
                    System.arraycopy(states[i + 1], 0, states[i], 0, CELLS);
                }
            } else {
                now++;
            }
            last = now;
            System.arraycopy(heights, 0, states[now], 0, CELLS);
        }

        int undoable() {
            return now;
        }

        int redoable() {
            return last - now;
        }

        int back(int[] heights) {
            if (now > 0) {
                now--;
            }
            System.arraycopy(states[now], 0, heights, 0, CELLS);
            return now;
        }

        int forth(int[] heights) {
            if (now < last) {
                now++;
            }
            System.arraycopy(states[now], 0, heights, 0, CELLS);
            return last - now;
        }
    }

    /** The tape, the grid that it tells, and why a text was refused. */
    private static final class Tape {
        static final int WALL = -1;

        private static final int BYTES = 40, CODES = 3;
        private static final int NO_CAUSE = 0, MISPLACED = 2, TOO_EARLY = 3, CELL_TOO_MANY = 4, ROW_TOO_MANY = 5;

        private final int[] bytes = new int[BYTES];
        private final int[] values = new int[CELLS];
        private final int[] codes = new int[CODES];
        private int length;
        private int codeCount;
        private int slashes;
        private int width;
        private int inRow;

        boolean isFull() {
            return length >= BYTES;
        }

        int append(int letter) {
            if (length < BYTES) {
                bytes[length] = letter;
                length++;
            }
            return length;
        }

        void rewind() {
            length = 0;
        }

        int length() {
            return length;
        }

        int codeCount() {
            return codeCount;
        }

        int codeAt(int i) {
            return i >= 0 && i < codeCount ? codes[i] : NONE;
        }

        int rowCount() {
            return slashes + 1;
        }

        int columnCount() {
            return width;
        }

        int valueAt(int cell) {
            return values[cell];
        }

        /** The fault, or NONE if the text is a grid. */
        int parse() {
            slashes = 0;
            width = 0;
            inRow = 0;
            codeCount = 0;
            for (int i = 0; i < length; i++) {
                int cause = accept(bytes[i]);
                if (cause != NO_CAUSE) {
                    return refuse(i, cause);
                }
            }
            if (!isRowWhole()) {
                return refuse(length, TOO_EARLY);
            }
            closeRow();
            return NONE;
        }

        private int refuse(int fault, int cause) {
            codes[0] = 1;
            codes[1] = 10 + slashes;
            codes[2] = cause;
            codeCount = CODES;
            return fault;
        }

        private int accept(int letter) {
            if (letter == '/') {
                return acceptSlash();
            }
            boolean isFigure = letter >= '0' && letter <= '9';
            if (letter != '#' && !isFigure) {
                return MISPLACED;
            }
            if (inRow >= mostInRow()) {
                return CELL_TOO_MANY;
            }
            values[slashes * width + inRow] = isFigure ? letter - '0' : WALL;
            inRow++;
            return NO_CAUSE;
        }

        private int acceptSlash() {
            if (!isRowWhole()) {
                return MISPLACED;
            }
            if (slashes + 1 >= SIDE) {
                return ROW_TOO_MANY;
            }
            closeRow();
            slashes++;
            inRow = 0;
            return NO_CAUSE;
        }

        private int mostInRow() {
            return slashes == 0 ? SIDE : width;
        }

        private boolean isRowWhole() {
            return slashes == 0 ? inRow > 0 : inRow == width;
        }

        private void closeRow() {
            width = inRow;
        }
    }
}
