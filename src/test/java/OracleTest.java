import java.util.Random;

/** Random runs of calls, the same on LegalRows and on the oracle; the seeds are fixed. */
public final class OracleTest {
    private final Random random;
    private final String name;
    private final int rows;
    private final long sites;
    private final LegalRows tested;
    private final Oracle oracle;
    private int cells = 0;
    private static int placedRuns = 0;
    private static int toldRuns = 0;
    private static int exchanges = 0;

    private OracleTest(long seed, int rows, long sites) {
        random = new Random(seed);
        name = "seed " + seed + ", new(" + rows + ", " + sites + "): ";
        this.rows = rows;
        this.sites = sites;
        tested = new LegalRows(rows, sites);
        oracle = new Oracle(rows, sites);
    }

    public static void main(String[] args) {
        for (int seed = 0; seed < 300 && Checks.wrongSoFar() < 20; seed++) {
            Random size = new Random(seed);
            int rows = 1 + size.nextInt(4);
            long sites = 1 + size.nextInt(60);
            new OracleTest(seed, rows, sites).calls(500, 8, 1 + size.nextInt(8));
        }
        for (int seed = 1000; seed < 1040 && Checks.wrongSoFar() < 20; seed++) {
            Random size = new Random(seed);
            int rows = 1 + size.nextInt(5);
            long sites = 60 + size.nextInt(120);
            new OracleTest(seed, rows, sites).calls(500, 30, 1 + size.nextInt(20));
        }
        for (int seed = 2000; seed < 2004 && Checks.wrongSoFar() < 20; seed++) {
            new OracleTest(seed, 17, 1001).calls(200, 60, 40);
        }
        // A test that only ever sees failures would show nothing.
        Checks.due("runs with places are many", true, () -> placedRuns > 1000);
        Checks.due("runs that told a cell are many", true, () -> toldRuns > 1000);
        Checks.due("exchanges are many", true, () -> exchanges > 1000);
        Checks.end("OracleTest");
    }

    private void calls(int count, int mostCells, int mostWidth) {
        int first = random.nextInt(mostCells);
        for (int i = 0; i < first; i++) {
            newCell(mostWidth);
            wantOf(i);
        }
        for (int i = 0; i < count && Checks.wrongSoFar() < 20; i++) {
            call(mostCells, mostWidth);
        }
    }

    private void call(int mostCells, int mostWidth) {
        int which = random.nextInt(100);
        if (which < 6) {
            if (cells < mostCells) {
                newCell(mostWidth);
            }
        } else if (which < 20) {
            wantOf(anyCell());
        } else if (which < 24) {
            bar();
        } else if (which < 30) {
            kind();
        } else if (which < 34) {
            space();
        } else if (which < 48) {
            net();
        } else if (which < 75) {
            runAndSeeAll();
        } else if (which < 85) {
            improveAndSeeAll();
        } else {
            seeOne();
        }
    }

    private void both(String call, Checks.Call onOracle, Checks.Call onTested) {
        Checks.compare(name + call, Checks.answerOf(onOracle), Checks.answerOf(onTested));
    }

    private boolean seldom() {
        return random.nextInt(25) == 0;
    }

    private int anyCell() {
        return seldom() ? random.nextInt(64) - 2 : random.nextInt(Math.max(1, cells));
    }

    private int anyKind() {
        return seldom() ? random.nextInt(8) - 2 : random.nextInt(4);
    }

    private int anyRow() {
        return seldom() ? random.nextInt(20) - 2 : random.nextInt(rows);
    }

    private long anySite() {
        return seldom() ? random.nextInt(1100) - 20 : random.nextInt((int) sites);
    }

    private void newCell(int mostWidth) {
        long width = seldom() ? random.nextInt(60) - 5 : 1 + random.nextInt(mostWidth);
        int height = seldom() ? random.nextInt(3) : 1;
        both("cell(" + width + ", " + height + ")",
                () -> oracle.cell(width, height), () -> tested.cell(width, height));
        if (width >= 1 && width <= 40 && height == 1 && cells < 60) {
            cells++;
        }
    }

    private void wantOf(int cell) {
        long x = anySite();
        int row = anyRow();
        both("want(" + cell + ", " + x + ", " + row + ")",
                () -> oracle.want(cell, x, row), () -> tested.want(cell, x, row));
    }

    private void bar() {
        int row = anyRow();
        long from = anySite();
        long to = seldom() ? anySite() : Math.min(sites, from + random.nextInt(4));
        both("bar(" + row + ", " + from + ", " + to + ")",
                () -> oracle.bar(row, from, to), () -> tested.bar(row, from, to));
    }

    private void kind() {
        int cell = anyCell();
        int left = anyKind();
        int right = random.nextInt(3) == 0 ? left : anyKind();
        both("kind(" + cell + ", " + left + ", " + right + ")",
                () -> oracle.kind(cell, left, right), () -> tested.kind(cell, left, right));
    }

    private void space() {
        int a = anyKind();
        int b = anyKind();
        long width = seldom() ? random.nextInt(30) - 4 : random.nextInt(4);
        both("space(" + a + ", " + b + ", " + width + ")",
                () -> oracle.space(a, b, width), () -> tested.space(a, b, width));
    }

    private void net() {
        int a = anyCell();
        int b = anyCell();
        both("net(" + a + ", " + b + ")", () -> oracle.net(a, b), () -> tested.net(a, b));
    }

    private void runAndSeeAll() {
        int due = oracle.run();
        Checks.due(name + "run()", due, () -> tested.run());
        if (due == 0) {
            placedRuns++;
        } else {
            toldRuns++;
        }
        seeAll();
    }

    private void improveAndSeeAll() {
        int steps = seldom() ? -random.nextInt(3) : random.nextInt(12);
        both("improve(" + steps + ")", () -> {
            int done = oracle.improve(steps);
            exchanges += done;
            return done;
        }, () -> tested.improve(steps));
        seeAll();
    }

    private void seeAll() {
        for (int i = 0; i < cells; i++) {
            seeCell(i);
        }
        both("moved()", () -> oracle.moved(), () -> tested.moved());
        both("wire()", () -> oracle.wire(), () -> tested.wire());
        both("overlap()", () -> oracle.overlap(), () -> tested.overlap());
    }

    private void seeOne() {
        seeCell(anyCell());
        both("moved()", () -> oracle.moved(), () -> tested.moved());
    }

    private void seeCell(int cell) {
        both("at(" + cell + ")", () -> oracle.at(cell), () -> tested.at(cell));
        both("rowOf(" + cell + ")", () -> oracle.rowOf(cell), () -> tested.rowOf(cell));
        both("mirrored(" + cell + ")", () -> oracle.mirrored(cell), () -> tested.mirrored(cell));
    }
}
