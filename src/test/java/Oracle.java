import java.util.ArrayList;
import java.util.Comparator;
import java.util.List;

/** The document's words done by trying all that there is; slow, and by other ways than LegalRows. */
final class Oracle {
    private static final int FAR = 1_000_000_000;

    private static final class Cell {
        int number;
        int width;
        int left;
        int right;
        int wantedSite;
        int wantedRow;
        int site;
        int row;
    }

    private record Part(int row, int from, int to, List<Cell> cells) {
    }

    private final int rows;
    private final int sites;
    private final boolean[][] barred;
    private final long[][] spaces = new long[4][4];
    private final List<Cell> cells = new ArrayList<>();
    private final List<int[]> nets = new ArrayList<>();
    private boolean placed = false;

    Oracle(int rows, long sites) {
        this.rows = rows < 1 ? 1 : rows > 16 ? 16 : rows;
        this.sites = sites < 1 ? 1 : sites > 1000 ? 1000 : (int) sites;
        barred = new boolean[this.rows][this.sites];
    }

    int cell(long width, int height) {
        if (cells.size() == 60) {
            throw new IllegalStateException();
        }
        if (width < 1 || width > 40 || height != 1) {
            throw new IllegalArgumentException();
        }
        Cell cell = new Cell();
        cell.number = cells.size();
        cell.width = (int) width;
        cells.add(cell);
        placed = false;
        return cell.number;
    }

    boolean want(int cell, long x, int row) {
        needCell(cell);
        if (x < 0 || x >= sites || row < 0 || row >= rows) {
            throw new IndexOutOfBoundsException();
        }
        Cell c = cells.get(cell);
        if (c.wantedSite == x && c.wantedRow == row) {
            return false;
        }
        c.wantedSite = (int) x;
        c.wantedRow = row;
        placed = false;
        return true;
    }

    boolean bar(int row, long from, long to) {
        if (row < 0 || row >= rows || from < 0 || from > sites || to < from || to > sites) {
            throw new IndexOutOfBoundsException();
        }
        boolean some = false;
        for (long site = from; site < to; site++) {
            some |= !barred[row][(int) site];
            barred[row][(int) site] = true;
        }
        placed &= !some;
        return some;
    }

    boolean kind(int cell, int left, int right) {
        needCell(cell);
        if (left < 0 || left > 3 || right < 0 || right > 3) {
            throw new IllegalArgumentException();
        }
        Cell c = cells.get(cell);
        if (c.left == left && c.right == right) {
            return false;
        }
        c.left = left;
        c.right = right;
        placed = false;
        return true;
    }

    boolean space(int a, int b, long width) {
        if (a < 0 || a > 3 || b < 0 || b > 3 || width < 0 || width > 20) {
            throw new IllegalArgumentException();
        }
        if (spaces[a][b] == width) {
            return false;
        }
        spaces[a][b] = width;
        placed = false;
        return true;
    }

    int run() {
        placed = false;
        List<Part> parts = freeParts();
        List<Cell> inOrder = new ArrayList<>(cells);
        inOrder.sort(Comparator.comparingInt((Cell c) -> c.wantedSite)
                .thenComparingInt(c -> c.number));
        for (Cell cell : inOrder) {
            Part best = null;
            int least = FAR;
            for (Part part : parts) {
                int before = lay(part);
                part.cells.add(cell);
                int after = lay(part);
                part.cells.remove(part.cells.size() - 1);
                int cost = after - before + 20 * Math.abs(part.row - cell.wantedRow);
                if (after < FAR && cost < least) {
                    least = cost;
                    best = part;
                }
            }
            if (best == null) {
                return 1 + cell.number;
            }
            best.cells.add(cell);
        }
        for (Part part : parts) {
            lay(part);
        }
        placed = true;
        return 0;
    }

    private List<Part> freeParts() {
        List<Part> parts = new ArrayList<>();
        for (int row = 0; row < rows; row++) {
            int site = 0;
            while (site < sites) {
                int from = site;
                while (site < sites && !barred[row][site]) {
                    site++;
                }
                if (site > from) {
                    parts.add(new Part(row, from, site, new ArrayList<>()));
                }
                site++;
            }
        }
        return parts;
    }

    /** The least sum, or FAR; least[i][x] is that of the cells from i on, with i at x or behind. */
    private int lay(Part part) {
        int count = part.cells.size();
        int[][] least = new int[count + 1][part.to + 64];
        for (int i = count - 1; i >= 0; i--) {
            Cell cell = part.cells.get(i);
            for (int x = part.to + 63; x >= 0; x--) {
                least[i][x] = x + cell.width > part.to ? FAR
                        : Math.min(least[i][x + 1], costFrom(part, i, x, least));
            }
        }
        if (count == 0 || least[0][part.from] >= FAR) {
            return count == 0 ? 0 : FAR;
        }
        int x = part.from;
        for (int i = 0; i < count; i++) {
            while (costFrom(part, i, x, least) > least[i][x]) {
                x++;
            }
            part.cells.get(i).site = x;
            part.cells.get(i).row = part.row;
            x = i + 1 < count ? next(part, i, x) : x;
        }
        return least[0][part.from];
    }

    private int costFrom(Part part, int i, int x, int[][] least) {
        Cell cell = part.cells.get(i);
        int rest = i + 1 < part.cells.size() ? least[i + 1][next(part, i, x)] : 0;
        return Math.min(FAR, Math.abs(x - cell.wantedSite) + rest);
    }

    private int next(Part part, int i, int x) {
        Cell cell = part.cells.get(i);
        return x + cell.width + (int) spaces[cell.right][part.cells.get(i + 1).left];
    }

    long at(int cell) {
        needCell(cell);
        needPlaces();
        return cells.get(cell).site;
    }

    int rowOf(int cell) {
        needCell(cell);
        needPlaces();
        return cells.get(cell).row;
    }

    long moved() {
        needPlaces();
        long sum = 0;
        for (Cell c : cells) {
            sum += Math.abs(c.site - c.wantedSite) + 20L * Math.abs(c.row - c.wantedRow);
        }
        return sum;
    }

    boolean mirrored(int cell) {
        return rowOf(cell) % 2 == 1;
    }

    int improve(int steps) {
        needPlaces();
        if (steps < 0) {
            throw new IllegalArgumentException();
        }
        int done = 0;
        while (done < steps && step()) {
            done++;
        }
        return done;
    }

    private boolean step() {
        long before = wire();
        for (Cell a : cells) {
            for (Cell b : cells) {
                if (a.number < b.number && a.width == b.width && a.left == b.left
                        && a.right == b.right) {
                    change(a, b);
                    if (wire() < before) {
                        return true;
                    }
                    change(a, b);
                }
            }
        }
        return false;
    }

    private static void change(Cell a, Cell b) {
        int site = a.site;
        int row = a.row;
        a.site = b.site;
        a.row = b.row;
        b.site = site;
        b.row = row;
    }

    int net(int a, int b) {
        needCell(a);
        needCell(b);
        if (nets.size() == 80) {
            throw new IllegalStateException();
        }
        if (a == b) {
            throw new IllegalArgumentException();
        }
        nets.add(new int[] {a, b});
        return nets.size() - 1;
    }

    long wire() {
        needPlaces();
        long sum = 0;
        for (int[] net : nets) {
            Cell a = cells.get(net[0]);
            Cell b = cells.get(net[1]);
            double sitesBetween = Math.abs(a.site + a.width / 2.0 - (b.site + b.width / 2.0));
            sum += Math.round(2 * sitesBetween) + 40L * Math.abs(a.row - b.row);
        }
        return sum;
    }

    boolean overlap() {
        needPlaces();
        boolean[][] taken = new boolean[rows][];
        for (int row = 0; row < rows; row++) {
            taken[row] = barred[row].clone();
        }
        for (Cell c : cells) {
            for (int site = c.site; site < c.site + c.width; site++) {
                if (taken[c.row][site]) {
                    return true;
                }
                taken[c.row][site] = true;
            }
        }
        return false;
    }

    private void needCell(int cell) {
        if (cell < 0 || cell >= cells.size()) {
            throw new IndexOutOfBoundsException();
        }
    }

    private void needPlaces() {
        if (!placed) {
            throw new IllegalStateException();
        }
    }
}
