/**
 * Cells come to rows of sites as near as can be to where they are wanted; then cells of a size
 * change places as long as wires get shorter. The promises are numbered as in DOC.md.
 */
public final class LegalRows {
    public static final int NONE = -1;

    private static final int MOST_ROWS = 16;
    private static final int MOST_SITES = 1000;
    private static final int MOST_CELLS = 60;
    private static final int MOST_NETS = 80;
    private static final int MOST_WIDTH = 40;
    private static final int MOST_SPACE = 20;
    private static final int MOST_CALLS = 512;
    private static final int KINDS = 4;
    private static final int SITES_PER_ROW_MOVED = 20;
    private static final int HALVES_PER_ROW_WIRED = 40;

    private final Ground ground;
    private final Cells cells;
    private final Nets nets;
    private final Filling filling;
    private boolean placed;

    /** Promise 1. */
    public LegalRows(int rows, long sites) {
        int rowCount = Math.max(1, Math.min(MOST_ROWS, rows));
        int siteCount = (int) Math.max(1L, Math.min((long) MOST_SITES, sites));
        ground = new Ground(rowCount, siteCount);
        cells = new Cells();
        nets = new Nets(cells);
        filling = new Filling(ground, cells);
        placed = false;
    }

    /** Promise 2. */
    public int cell(long width, int height) throws IllegalStateException, IllegalArgumentException {
        if (cells.count >= MOST_CELLS) {
            throw new IllegalStateException("there are as many cells as there can be");
        }
        if (width < 1 || width > MOST_WIDTH || height != 1) {
            throw new IllegalArgumentException("no such width or height");
        }
        placed = false;
        return cells.add((int) width);
    }

    /** Promise 3. */
    public boolean want(int cell, long x, int row) throws IndexOutOfBoundsException {
        requireCell(cell);
        requireRow(row);
        if (x < 0 || x >= ground.sites) {
            throw new IndexOutOfBoundsException("no such site");
        }
        return noteChange(cells.setWanted(cell, (int) x, row));
    }

    /** Promise 4. */
    public boolean bar(int row, long from, long to) throws IndexOutOfBoundsException {
        requireRow(row);
        if (from < 0 || from > ground.sites || to < from || to > ground.sites) {
            throw new IndexOutOfBoundsException("no such sites");
        }
        return noteChange(ground.cut(row, (int) from, (int) to));
    }

    /** Promise 5. */
    public boolean kind(int cell, int left, int right)
            throws IndexOutOfBoundsException, IllegalArgumentException {
        requireCell(cell);
        requireKinds(left, right);
        return noteChange(cells.setKinds(cell, left, right));
    }

    /** Promise 6. */
    public boolean space(int a, int b, long sites2) throws IllegalArgumentException {
        requireKinds(a, b);
        if (sites2 < 0 || sites2 > MOST_SPACE) {
            throw new IllegalArgumentException("no such space");
        }
        return noteChange(cells.setSpace(a, b, (int) sites2));
    }

    /** Promise 7. */
    public int run() {
        int told = filling.placeAll();
        placed = told == NONE;
        return placed ? 0 : 1 + told;
    }

    /** Promise 8. */
    public long at(int cell) throws IndexOutOfBoundsException, IllegalStateException {
        requireCell(cell);
        requirePlaces();
        return cells.site[cell];
    }

    /** Promise 9. */
    public int rowOf(int cell) throws IndexOutOfBoundsException, IllegalStateException {
        requireCell(cell);
        requirePlaces();
        return cells.row[cell];
    }

    /** Promise 10. */
    public long moved() throws IllegalStateException {
        requirePlaces();
        return cells.wayFromWanted();
    }

    /** Promise 11. */
    public boolean mirrored(int cell) throws IndexOutOfBoundsException, IllegalStateException {
        requireCell(cell);
        requirePlaces();
        return cells.row[cell] % 2 == 1;
    }

    /** Promise 12. */
    public int improve(int steps) throws IllegalStateException, IllegalArgumentException {
        requirePlaces();
        if (steps < 0) {
            throw new IllegalArgumentException("steps are below 0");
        }
        int done = 0;
        while (done < steps && nets.exchangeFirstPair()) {
            done++;
        }
        return done;
    }

    /** Promise 13. */
    public int net(int a, int b)
            throws IndexOutOfBoundsException, IllegalStateException, IllegalArgumentException {
        requireCell(a);
        requireCell(b);
        if (nets.count >= MOST_NETS) {
            throw new IllegalStateException("there are as many nets as there can be");
        }
        if (a == b) {
            throw new IllegalArgumentException("both cells are the same");
        }
        return nets.add(a, b);
    }

    /** Promise 14. */
    public long wire() throws IllegalStateException {
        requirePlaces();
        return nets.length();
    }

    /** Promise 15. */
    public boolean overlap() throws IllegalStateException {
        requirePlaces();
        for (int a = 0; a < cells.count; a++) {
            if (!ground.isFree(cells.row[a], cells.site[a], cells.end(a))) {
                return true;
            }
            for (int b = a + 1; b < cells.count; b++) {
                if (cells.shareSite(a, b)) {
                    return true;
                }
            }
        }
        return false;
    }

    private boolean noteChange(boolean changed) {
        if (changed) {
            placed = false;
        }
        return changed;
    }

    private void requireCell(int cell) {
        if (cell < 0 || cell >= cells.count) {
            throw new IndexOutOfBoundsException("no such cell");
        }
    }

    private void requireRow(int row) {
        if (row < 0 || row >= ground.rows) {
            throw new IndexOutOfBoundsException("no such row");
        }
    }

    private void requirePlaces() {
        if (!placed) {
            throw new IllegalStateException("cells have no places");
        }
    }

    private static void requireKinds(int a, int b) {
        if (a < 0 || a >= KINDS || b < 0 || b >= KINDS) {
            throw new IllegalArgumentException("no such kind");
        }
    }

    /** The rows, held as their free parts: what is in no part is barred. */
    private static final class Ground {
        final int rows;
        final int sites;
        final int[] partRow;
        final int[] partFrom;
        final int[] partTo;
        int parts;

        Ground(int rows, int sites) {
            this.rows = rows;
            this.sites = sites;
            // A barred site stands between two parts of a row, and a call brings one part at most.
            int most = Math.min(rows * ((sites + 1) / 2), rows + MOST_CALLS);
            partRow = new int[most];
            partFrom = new int[most];
            partTo = new int[most];
            for (int row = 0; row < rows; row++) {
                partRow[row] = row;
                partTo[row] = sites;
            }
            parts = rows;
        }

        /** Whether some of these sites were free. */
        boolean cut(int row, int from, int to) {
            boolean some = false;
            // From the last part on, as a part that comes or goes moves only those behind it.
            for (int part = parts - 1; part >= 0; part--) {
                if (partRow[part] == row
                        && Math.max(partFrom[part], from) < Math.min(partTo[part], to)) {
                    cutPart(part, from, to);
                    some = true;
                }
            }
            return some;
        }

        private void cutPart(int part, int from, int to) {
            boolean leftStays = partFrom[part] < from;
            boolean rightStays = to < partTo[part];
            if (leftStays && rightStays) {
                insertBehind(part, to, partTo[part]);
            }
            if (leftStays) {
                partTo[part] = from;
            } else if (rightStays) {
                partFrom[part] = to;
            } else {
                remove(part);
            }
        }

        private void insertBehind(int part, int from, int to) {
            if (parts >= partRow.length) {
                return;
            }
            shiftParts(part + 1, part + 2);
            parts++;
            partRow[part + 1] = partRow[part];
            partFrom[part + 1] = from;
            partTo[part + 1] = to;
        }

        private void remove(int part) {
            shiftParts(part + 1, part);
            parts--;
        }

        private void shiftParts(int from, int to) {
            int length = parts - from;
            if (length <= 0) {
                return;
            }
            System.arraycopy(partRow, from, partRow, to, length);
            System.arraycopy(partFrom, from, partFrom, to, length);
            System.arraycopy(partTo, from, partTo, to, length);
        }

        boolean isFree(int row, int from, int to) {
            for (int part = 0; part < parts; part++) {
                if (partRow[part] == row && partFrom[part] <= from && to <= partTo[part]) {
                    return true;
                }
            }
            return false;
        }
    }

    /** What is known of each cell: its size, its edges, where it is wanted and where it is. */
    private static final class Cells {
        final int[] width = new int[MOST_CELLS];
        final int[] left = new int[MOST_CELLS];
        final int[] right = new int[MOST_CELLS];
        final int[] wantedSite = new int[MOST_CELLS];
        final int[] wantedRow = new int[MOST_CELLS];
        final int[] site = new int[MOST_CELLS];
        final int[] row = new int[MOST_CELLS];
        final int[] spaces = new int[KINDS * KINDS];
        int count;

        int add(int newWidth) {
            width[count] = newWidth;
            count++;
            return count - 1;
        }

        boolean setWanted(int cell, int newSite, int newRow) {
            boolean changed = wantedSite[cell] != newSite || wantedRow[cell] != newRow;
            wantedSite[cell] = newSite;
            wantedRow[cell] = newRow;
            return changed;
        }

        boolean setKinds(int cell, int newLeft, int newRight) {
            boolean changed = left[cell] != newLeft || right[cell] != newRight;
            left[cell] = newLeft;
            right[cell] = newRight;
            return changed;
        }

        boolean setSpace(int a, int b, int newSpace) {
            boolean changed = spaces[a * KINDS + b] != newSpace;
            spaces[a * KINDS + b] = newSpace;
            return changed;
        }

        int spaceBetween(int leftCell, int rightCell) {
            return spaces[right[leftCell] * KINDS + left[rightCell]];
        }

        void put(int cell, int newSite, int newRow) {
            site[cell] = newSite;
            row[cell] = newRow;
        }

        void exchange(int a, int b) {
            int siteOfA = site[a];
            int rowOfA = row[a];
            put(a, site[b], row[b]);
            put(b, siteOfA, rowOfA);
        }

        boolean alike(int a, int b) {
            return width[a] == width[b] && left[a] == left[b] && right[a] == right[b];
        }

        int end(int cell) {
            return site[cell] + width[cell];
        }

        boolean shareSite(int a, int b) {
            return row[a] == row[b] && site[a] < end(b) && site[b] < end(a);
        }

        int rowCost(int cell, int otherRow) {
            return SITES_PER_ROW_MOVED * Math.abs(wantedRow[cell] - otherRow);
        }

        long wayFromWanted() {
            long sum = 0;
            for (int cell = 0; cell < count; cell++) {
                sum += Math.abs(site[cell] - wantedSite[cell]) + rowCost(cell, row[cell]);
            }
            return sum;
        }

        /** How far the middles are from each other, in halves of sites, and the rows' share. */
        int distance(int a, int b) {
            int halves = Math.abs(site[a] + end(a) - site[b] - end(b));
            return halves + HALVES_PER_ROW_WIRED * Math.abs(row[a] - row[b]);
        }
    }

    /**
     * The nets; each has two ends, 2 * net and 2 * net + 1, and each cell a chain of its ends, so
     * that what an exchange brings is told from the nets of two cells alone.
     */
    private static final class Nets {
        final Cells cells;
        final int[] cellOf = new int[2 * MOST_NETS];
        final int[] nextEnd = new int[2 * MOST_NETS];
        final int[] firstEnd = new int[MOST_CELLS];
        int count;

        Nets(Cells cells) {
            this.cells = cells;
            for (int cell = 0; cell < MOST_CELLS; cell++) {
                firstEnd[cell] = NONE;
            }
        }

        int add(int a, int b) {
            chain(2 * count, a);
            chain(2 * count + 1, b);
            count++;
            return count - 1;
        }

        private void chain(int end, int cell) {
            cellOf[end] = cell;
            nextEnd[end] = firstEnd[cell];
            firstEnd[cell] = end;
        }

        long length() {
            long sum = 0;
            for (int net = 0; net < count; net++) {
                sum += cells.distance(cellOf[2 * net], cellOf[2 * net + 1]);
            }
            return sum;
        }

        /** One step of the exchanges: whether there was a pair for it. */
        boolean exchangeFirstPair() {
            for (int a = 0; a < cells.count; a++) {
                for (int b = a + 1; b < cells.count; b++) {
                    if (cells.alike(a, b) && gainOfCellAt(a, b) + gainOfCellAt(b, a) > 0) {
                        cells.exchange(a, b);
                        return true;
                    }
                }
            }
            return false;
        }

        /** By how much a cell's nets get shorter if it comes to the place of one of its size. */
        private int gainOfCellAt(int cell, int place) {
            int gain = 0;
            int end = firstEnd[cell];
            for (int seen = 0; seen < MOST_NETS && end != NONE; seen++) {
                int other = cellOf[end ^ 1];
                // A net of the two that change places stays as long as it was.
                if (other != place) {
                    gain += cells.distance(cell, other) - cells.distance(place, other);
                }
                end = nextEnd[end];
            }
            return gain;
        }
    }

    /** Brings the cells to parts: each part has a chain of its cells, from the left. */
    private static final class Filling {
        final Ground ground;
        final Cells cells;
        final Line line;
        final int[] order = new int[MOST_CELLS];
        final int[] nextCell = new int[MOST_CELLS];
        final int[] firstCell;
        final int[] lastCell;
        final int[] sum;

        Filling(Ground ground, Cells cells) {
            this.ground = ground;
            this.cells = cells;
            line = new Line(cells);
            int most = ground.partRow.length;
            firstCell = new int[most];
            lastCell = new int[most];
            sum = new int[most];
        }

        /** The cell for which there is no place, or NONE. */
        int placeAll() {
            emptyParts();
            orderCells();
            for (int i = 0; i < cells.count; i++) {
                int part = cheapestPart(order[i]);
                if (part == NONE) {
                    return order[i];
                }
                append(order[i], part);
                settle(part);
            }
            return NONE;
        }

        private void emptyParts() {
            for (int part = 0; part < ground.parts; part++) {
                firstCell[part] = NONE;
                lastCell[part] = NONE;
                sum[part] = 0;
            }
        }

        private void orderCells() {
            for (int cell = 0; cell < cells.count; cell++) {
                int i = cell;
                while (i > 0 && cells.wantedSite[order[i - 1]] > cells.wantedSite[cell]) {
                    order[i] = order[i - 1];
                    i--;
                }
                order[i] = cell;
            }
        }

        private int cheapestPart(int cell) {
            int best = NONE;
            int least = 0;
            for (int part = 0; part < ground.parts; part++) {
                // Laying is dear: it is left out where it can't be cheaper than what was found.
                if (best != NONE && costAtLeast(cell, part) >= least) {
                    continue;
                }
                if (layWith(cell, part)) {
                    int cost = line.sum - sum[part] + cells.rowCost(cell, ground.partRow[part]);
                    if (best == NONE || cost < least) {
                        best = part;
                        least = cost;
                    }
                }
            }
            return best;
        }

        /** A new cell never lessens the others' sum, so the cost is no less than its own way. */
        private int costAtLeast(int cell, int part) {
            int wanted = cells.wantedSite[cell];
            int tooFarLeft = ground.partFrom[part] - wanted;
            int tooFarRight = wanted + cells.width[cell] - ground.partTo[part];
            int way = Math.max(0, Math.max(tooFarLeft, tooFarRight));
            return way + cells.rowCost(cell, ground.partRow[part]);
        }

        private void append(int cell, int part) {
            if (lastCell[part] == NONE) {
                firstCell[part] = cell;
            } else {
                nextCell[lastCell[part]] = cell;
            }
            lastCell[part] = cell;
            nextCell[cell] = NONE;
        }

        /** Whether the part's cells and this one behind them fit; they are laid then. */
        private boolean layWith(int cell, int part) {
            gather(part);
            line.add(cell);
            return line.layIn(ground.partFrom[part], ground.partTo[part]);
        }

        private void gather(int part) {
            line.clear();
            int cell = firstCell[part];
            for (int seen = 0; seen < MOST_CELLS && cell != NONE; seen++) {
                line.add(cell);
                cell = nextCell[cell];
            }
        }

        /** Puts a part's cells where they are laid; the last time for a part is what stays. */
        private void settle(int part) {
            gather(part);
            if (line.layIn(ground.partFrom[part], ground.partTo[part])) {
                sum[part] = line.sum;
                line.putCells(ground.partRow[part]);
            }
        }
    }

    /**
     * Cells in an order, and how they are laid. Packed to the left each cell has an offset; what
     * it stands farther to the right is its shift, which never falls from one cell to the next. So
     * the shifts with the least sum are sought that do not fall.
     */
    private static final class Line {
        final Cells cells;
        final int[] cell = new int[MOST_CELLS];
        final int[] offset = new int[MOST_CELLS];
        final int[] bestShift = new int[MOST_CELLS];
        final int[] site = new int[MOST_CELLS];
        // Each cell brings two bends, and one goes before the next cell comes.
        final int[] bend = new int[MOST_CELLS + 1];
        int bends;
        int count;
        int length;
        int sum;

        Line(Cells cells) {
            this.cells = cells;
        }

        void clear() {
            count = 0;
            length = 0;
        }

        void add(int newCell) {
            if (count >= MOST_CELLS) {
                return;
            }
            if (count > 0) {
                length += cells.spaceBetween(cell[count - 1], newCell);
            }
            cell[count] = newCell;
            offset[count] = length;
            length += cells.width[newCell];
            count++;
        }

        /** Whether the cells fit there; if so, their sites and the sum are set. */
        boolean layIn(int from, int to) {
            int room = to - from - length;
            if (room < 0) {
                return false;
            }
            findBestShifts(from, room);
            setSites(from, room);
            return true;
        }

        /**
         * The least sum of the cells up to one, by that one's shift, is a line with bends; the
         * bends where it still falls are kept in order. The last of them is the least shift with
         * which that sum is least: so of several ways the one farthest to the left is found.
         */
        private void findBestShifts(int from, int room) {
            bends = 0;
            for (int i = 0; i < count; i++) {
                int wanted = cells.wantedSite[cell[i]] - offset[i] - from;
                int nearest = Math.max(0, Math.min(room, wanted));
                insertBend(nearest);
                insertBend(nearest);
                bends--;
                bestShift[i] = bend[bends - 1];
            }
        }

        private void insertBend(int shift) {
            if (bends >= bend.length) {
                return;
            }
            int i = bends;
            while (i > 0 && bend[i - 1] > shift) {
                bend[i] = bend[i - 1];
                i--;
            }
            bend[i] = shift;
            bends++;
        }

        private void setSites(int from, int room) {
            int shift = room;
            sum = 0;
            for (int i = count - 1; i >= 0; i--) {
                shift = Math.min(shift, bestShift[i]);
                site[i] = from + offset[i] + shift;
                sum += Math.abs(site[i] - cells.wantedSite[cell[i]]);
            }
        }

        void putCells(int row) {
            for (int i = 0; i < count; i++) {
                cells.put(cell[i], site[i], row);
            }
        }
    }
}
