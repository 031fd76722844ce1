/**
 * The boundary cases of promises 1 to 15: each sentence that names one has a method of its own,
 * with the last values that are still allowed and the first ones that are not.
 */
public final class BoundaryTest extends Scenes {
    private static final long WRAPS_TO_0 = 1L << 32;

    public static void main(String[] args) {
        rowsAreDrawnIntoTheirLimits();
        sitesAreDrawnIntoTheirLimits();
        nothingIsBarredAtFirst();
        noCellsAtFirst();

        noneIsMinusOne();
        cellsAreSixty();
        widthsOfCells();
        heightsOfCells();
        widthsAreTakenWhole();

        wantedCells();
        wantedSites();
        wantedRows();
        wantedElsewhere();
        wantedWhereItCannotBe();

        barredRows();
        barredFrom();
        barredTo();
        barredUpToNotItself();
        barredWhetherSomeWereNot();

        kindsOfWhichCell();
        kindsOfEdges();
        kindsOtherThanBefore();

        spacesOfWhichKinds();
        spacesHowWide();
        spacesNotTheOtherWayRound();
        spacesOtherThanBefore();

        runWithNothingToPlace();
        runTellsOneAndTheNumber();
        runOfSixtyInFullRows();

        atFirstAndLastSite();
        rowOfFirstAndLastRow();
        cellsThatAreAsked();
        movedFromNothingToTheMost();
        mirroredInOddRows();

        improveSteps();
        improveWithoutSteps();

        netsOfWhichCells();
        netsOfOneCell();
        netsAreEighty();
        wireFromNothingOn();
        overlapOfNeighbours();
        Checks.end("BoundaryTest");
    }

    // Promise 1: "So many rows (1, if they are below that, 16, if above)"

    private static void rowsAreDrawnIntoTheirLimits() {
        dueRowsOfNew(Integer.MIN_VALUE, 1);
        dueRowsOfNew(-1, 1);
        dueRowsOfNew(0, 1);
        dueRowsOfNew(1, 1);
        dueRowsOfNew(2, 2);
        dueRowsOfNew(15, 15);
        dueRowsOfNew(16, 16);
        dueRowsOfNew(17, 16);
        dueRowsOfNew(Integer.MAX_VALUE, 16);
    }

    private static void dueRowsOfNew(int rows, int due) {
        LegalRows x = new LegalRows(rows, 5);
        String made = "new(" + rows + ", 5): ";
        Checks.due(made + "the last row", false, () -> x.bar(due - 1, 0, 0));
        Checks.dueThrows(made + "a row more", NO_SUCH, () -> x.bar(due, 0, 0));
        // Cells as wide as a row: as many rows hold as many of them, and no more.
        for (int i = 0; i < due; i++) {
            x.cell(5, 1);
        }
        afterRun(x);
        Checks.due(made + "rowOf the last", due - 1, () -> x.rowOf(due - 1));
        x.cell(5, 1);
        dueTold(made + "one more than rows", x, due);
    }

    // Promise 1: "and sites (1 .. 1000 likewise)"

    private static void sitesAreDrawnIntoTheirLimits() {
        dueSitesOfNew(Long.MIN_VALUE, 1);
        dueSitesOfNew(-WRAPS_TO_0 + 5, 1);
        dueSitesOfNew(-1, 1);
        dueSitesOfNew(0, 1);
        dueSitesOfNew(1, 1);
        dueSitesOfNew(2, 2);
        dueSitesOfNew(999, 999);
        dueSitesOfNew(1000, 1000);
        dueSitesOfNew(1001, 1000);
        dueSitesOfNew(WRAPS_TO_0, 1000);
        dueSitesOfNew(WRAPS_TO_0 + 5, 1000);
        dueSitesOfNew(Long.MAX_VALUE, 1000);
    }

    private static void dueSitesOfNew(long sites, long due) {
        LegalRows x = new LegalRows(1, sites);
        String made = "new(1, " + sites + "): ";
        Checks.due(made + "bar at the end", false, () -> x.bar(0, due, due));
        Checks.dueThrows(made + "bar behind it", NO_SUCH, () -> x.bar(0, due, due + 1));
        x.cell(1, 1);
        Checks.due(made + "the last site", due > 1, () -> x.want(0, due - 1, 0));
        Checks.dueThrows(made + "a site more", NO_SUCH, () -> x.want(0, due, 0));
        afterRun(x);
        Checks.due(made + "at(0)", due - 1, () -> x.at(0));
    }

    // Promise 1: "nothing barred, no cells"

    private static void nothingIsBarredAtFirst() {
        for (int row = 0; row < 16; row++) {
            LegalRows x = new LegalRows(16, 1000);
            for (int i = 0; i < 25; i++) {
                x.cell(40, 1);
                x.want(i, 40 * i, row);
            }
            afterRun(x);
            Checks.due("all of row " + row + " is free", 0L, () -> x.moved());
        }
        LegalRows one = new LegalRows(1, 1);
        Checks.due("the only site is free", true, () -> one.bar(0, 0, 1));
    }

    private static void noCellsAtFirst() {
        LegalRows x = new LegalRows(16, 1000);
        Checks.dueThrows("want", NO_SUCH, () -> x.want(0, 0, 0));
        Checks.dueThrows("kind", NO_SUCH, () -> x.kind(0, 0, 0));
        Checks.dueThrows("at", NO_SUCH, () -> x.at(0));
        Checks.dueThrows("rowOf", NO_SUCH, () -> x.rowOf(0));
        Checks.dueThrows("mirrored", NO_SUCH, () -> x.mirrored(0));
        Checks.dueThrows("net", NO_SUCH, () -> x.net(0, 1));
        Checks.due("the first cell", 0, () -> x.cell(1, 1));
        Checks.dueThrows("want of a second", NO_SUCH, () -> x.want(1, 0, 0));
    }

    // The public face: "NONE = -1"

    private static void noneIsMinusOne() {
        Checks.due("NONE", -1, () -> LegalRows.NONE);
        LegalRows x = withWidths(1, 10, 1);
        Checks.dueThrows("NONE is no cell", NO_SUCH, () -> x.want(LegalRows.NONE, 0, 0));
    }

    // Promise 2: "A new cell: its number"; Terms: "CELLS 0 .. 59"

    private static void cellsAreSixty() {
        LegalRows x = new LegalRows(16, 1000);
        for (int i = 0; i < 59; i++) {
            int number = i;
            Checks.due("cell " + number, number, () -> x.cell(1, 1));
        }
        Checks.dueThrows("a refused one has no number", BAD_VALUE, () -> x.cell(41, 1));
        Checks.dueThrows("cell 59 is not there yet", NO_SUCH, () -> x.want(59, 0, 0));
        Checks.due("cell 59", 59, () -> x.cell(40, 1));
        Checks.due("cell 59 is there", true, () -> x.want(59, 960, 15));
        for (int i = 0; i < 3; i++) {
            Checks.dueThrows("cell 60", BAD_STATE, () -> x.cell(1, 1));
        }
        Checks.dueThrows("cell 60 is not there", NO_SUCH, () -> x.want(60, 0, 0));
        afterRun(x);
        Checks.due("at(59)", 960L, () -> x.at(59));
        Checks.dueThrows("at(60)", NO_SUCH, () -> x.at(60));
        Checks.dueThrows("cell 60 after run()", BAD_STATE, () -> x.cell(1, 1));
        Checks.due("places stay", 15, () -> x.rowOf(59));
    }

    // Promise 2: "the width is not 1 .. 40, or the height not 1"

    private static void widthsOfCells() {
        LegalRows x = new LegalRows(2, 100);
        long[] wrong = {
            0, 41, -1, 42, Long.MIN_VALUE, Long.MAX_VALUE, WRAPS_TO_0, WRAPS_TO_0 + 1,
            -WRAPS_TO_0 + 40, WRAPS_TO_0 + 40
        };
        for (long width : wrong) {
            Checks.dueThrows("cell(" + width + ", 1)", BAD_VALUE, () -> x.cell(width, 1));
            Checks.dueThrows("cell(" + width + ", 2)", BAD_VALUE, () -> x.cell(width, 2));
        }
        for (int i = 0; i < 40; i++) {
            int width = 1 + i;
            Checks.due("cell(" + width + ", 1)", i, () -> x.cell(width, 1));
        }
    }

    private static void heightsOfCells() {
        LegalRows x = new LegalRows(2, 100);
        for (int height : new int[] {0, 2, -1, 3, Integer.MIN_VALUE, Integer.MAX_VALUE}) {
            Checks.dueThrows("cell(1, " + height + ")", BAD_VALUE, () -> x.cell(1, height));
            Checks.dueThrows("cell(40, " + height + ")", BAD_VALUE, () -> x.cell(40, height));
        }
        Checks.due("cell(1, 1)", 0, () -> x.cell(1, 1));
    }

    private static void widthsAreTakenWhole() {
        afterRun(withWidths(1, 40, 40));
        dueTold("40 in 39", withWidths(1, 39, 40), 0);
        afterRun(withWidths(1, 1, 1));
        dueTold("2 in 1", withWidths(1, 1, 2), 0);
        dueTold("two of 1 in 1", withWidths(1, 1, 1, 1), 1);
    }

    // Promise 3: "IndexOutOfBoundsException: cell, site (0 .. sites - 1) or row"

    private static void wantedCells() {
        LegalRows x = withWidths(2, 10, 1, 1);
        for (int cell : new int[] {-1, 2, 59, 60, Integer.MIN_VALUE, Integer.MAX_VALUE}) {
            Checks.dueThrows("want(" + cell + ", 3, 1)", NO_SUCH, () -> x.want(cell, 3, 1));
        }
        Checks.due("want(0, 3, 1)", true, () -> x.want(0, 3, 1));
        Checks.due("want(1, 3, 1)", true, () -> x.want(1, 3, 1));
    }

    private static void wantedSites() {
        LegalRows x = withWidths(2, 10, 1);
        long[] wrong = {
            -1, 10, 11, 1000, Long.MIN_VALUE, Long.MAX_VALUE, WRAPS_TO_0, WRAPS_TO_0 + 9,
            -WRAPS_TO_0 + 9
        };
        for (long site : wrong) {
            Checks.dueThrows("want(0, " + site + ", 1)", NO_SUCH, () -> x.want(0, site, 1));
        }
        Checks.due("not wanted in row 1 by that", false, () -> x.want(0, 0, 0));
        Checks.due("the last site", true, () -> x.want(0, 9, 0));
        Checks.due("the first site", true, () -> x.want(0, 0, 0));
        LegalRows most = withWidths(1, 1000, 1);
        Checks.due("site 999", true, () -> most.want(0, 999, 0));
        Checks.dueThrows("site 1000", NO_SUCH, () -> most.want(0, 1000, 0));
        LegalRows least = withWidths(1, 1, 1);
        Checks.due("the only site", false, () -> least.want(0, 0, 0));
        Checks.dueThrows("site 1 of 1", NO_SUCH, () -> least.want(0, 1, 0));
    }

    private static void wantedRows() {
        LegalRows x = withWidths(3, 10, 1);
        for (int row : new int[] {-1, 3, 4, 16, Integer.MIN_VALUE, Integer.MAX_VALUE}) {
            Checks.dueThrows("want(0, 5, " + row + ")", NO_SUCH, () -> x.want(0, 5, row));
        }
        Checks.due("not wanted at site 5 by that", false, () -> x.want(0, 0, 0));
        Checks.due("the last row", true, () -> x.want(0, 0, 2));
        Checks.due("the first row", true, () -> x.want(0, 0, 0));
        LegalRows most = withWidths(16, 10, 1);
        Checks.due("row 15", true, () -> most.want(0, 0, 15));
        Checks.dueThrows("row 16", NO_SUCH, () -> most.want(0, 0, 16));
    }

    // Promise 3: "whether that is another place than before"; Terms: "(0 and 0 at first)"

    private static void wantedElsewhere() {
        LegalRows x = withWidths(2, 10, 1, 1);
        Checks.due("0 and 0 at first", false, () -> x.want(1, 0, 0));
        Checks.due("another site", true, () -> x.want(1, 4, 0));
        Checks.due("the same", false, () -> x.want(1, 4, 0));
        Checks.due("another row", true, () -> x.want(1, 4, 1));
        Checks.due("the same again", false, () -> x.want(1, 4, 1));
        Checks.due("another site and row", true, () -> x.want(1, 3, 0));
        Checks.due("the other cell's is its own", false, () -> x.want(0, 0, 0));
        afterRun(withWidths(2, 10, 1));
        dueSites("unasked it is wanted at 0", afterRun(withWidths(2, 10, 3)), 0);
        dueRows("unasked it is wanted in row 0", afterRun(withWidths(2, 10, 3)), 0);
    }

    private static void wantedWhereItCannotBe() {
        LegalRows x = withCells(1, 100, 40, 60);
        dueSites("the last site where it fits", afterRun(x), 60);
        x.want(0, 61, 0);
        dueSites("the first where it does not", afterRun(x), 60);
        Checks.due("moved()", 1L, () -> x.moved());
        x.want(0, 99, 0);
        dueSites("wanted at the last site", afterRun(x), 60);
        Checks.due("moved() from the last site", 39L, () -> x.moved());
        x.bar(0, 99, 100);
        Checks.due("a barred site may be wanted", false, () -> x.want(0, 99, 0));
        dueSites("off the barred site", afterRun(x), 59);
    }

    // Promise 4: "the row, or from is not 0 .. sites, or to not from .. sites"

    private static void barredRows() {
        LegalRows x = new LegalRows(3, 10);
        for (int row : new int[] {-1, 3, 16, Integer.MIN_VALUE, Integer.MAX_VALUE}) {
            Checks.dueThrows("bar(" + row + ", 0, 10)", NO_SUCH, () -> x.bar(row, 0, 10));
            Checks.dueThrows("bar(" + row + ", 0, 0)", NO_SUCH, () -> x.bar(row, 0, 0));
        }
        Checks.due("the first row", true, () -> x.bar(0, 0, 10));
        Checks.due("the last row", true, () -> x.bar(2, 0, 10));
        Checks.due("no row but those", true, () -> x.bar(1, 0, 10));
    }

    private static void barredFrom() {
        LegalRows x = new LegalRows(1, 10);
        long[] wrong = {-1, 11, Long.MIN_VALUE, Long.MAX_VALUE, WRAPS_TO_0, -WRAPS_TO_0 + 1};
        for (long from : wrong) {
            Checks.dueThrows("bar(0, " + from + ", 10)", NO_SUCH, () -> x.bar(0, from, 10));
            Checks.dueThrows("bar from and to " + from, NO_SUCH, () -> x.bar(0, from, from));
        }
        Checks.due("from the end on there is none", false, () -> x.bar(0, 10, 10));
        Checks.due("from the last site", true, () -> x.bar(0, 9, 10));
        Checks.due("from the first site", true, () -> x.bar(0, 0, 1));
        Checks.due("nothing by the wrong ones", true, () -> x.bar(0, 1, 9));
    }

    private static void barredTo() {
        LegalRows x = new LegalRows(1, 10);
        for (long to : new long[] {11, 4, -1, Long.MIN_VALUE, Long.MAX_VALUE, WRAPS_TO_0 + 8}) {
            Checks.dueThrows("bar(0, 5, " + to + ")", NO_SUCH, () -> x.bar(0, 5, to));
        }
        Checks.dueThrows("bar(0, 0, -1)", NO_SUCH, () -> x.bar(0, 0, -1));
        Checks.dueThrows("bar(0, 10, 9)", NO_SUCH, () -> x.bar(0, 10, 9));
        Checks.dueThrows("bar(0, 10, 11)", NO_SUCH, () -> x.bar(0, 10, 11));
        Checks.due("to where it is from", false, () -> x.bar(0, 5, 5));
        Checks.due("at the start", false, () -> x.bar(0, 0, 0));
        Checks.due("to the end", true, () -> x.bar(0, 5, 10));
        Checks.due("nothing by the others", true, () -> x.bar(0, 4, 5));
        LegalRows most = new LegalRows(16, 1000);
        Checks.dueThrows("to 1001", NO_SUCH, () -> most.bar(15, 0, 1001));
        Checks.due("to 1000", true, () -> most.bar(15, 0, 1000));
        Checks.dueThrows("from 1001", NO_SUCH, () -> most.bar(15, 1001, 1001));
        Checks.due("from 1000", false, () -> most.bar(15, 1000, 1000));
    }

    // Promise 4: "Sites from one on, up to another one (not it itself), are barred in a row"

    private static void barredUpToNotItself() {
        LegalRows x = withCells(2, 10, 1, 3);
        x.bar(0, 3, 5);
        dueSites("the site before from is free", afterRun(x), 2);
        x.bar(0, 0, 3);
        dueSites("to itself is free", afterRun(x), 5);
        Checks.due("to is not barred", true, () -> x.bar(0, 5, 6));
        dueSites("now it is", afterRun(x), 6);
        dueRows("and still in row 0", x, 0);
        x.bar(0, 6, 10);
        dueRows("the other row is free", afterRun(x), 1);
        dueSites("the other row is free", x, 3);
        LegalRows ends = withCells(1, 10, 1, 0, 9);
        ends.bar(0, 0, 1);
        ends.bar(0, 9, 10);
        dueSites("without the first and the last", afterRun(ends), 1, 8);
        ends.bar(0, 2, 8);
        dueSites("two sites are left", afterRun(ends), 1, 8);
        ends.bar(0, 1, 2);
        dueTold("one site is left", ends, 1);
        Checks.due("that one", true, () -> ends.bar(0, 8, 9));
        dueTold("none is left", ends, 0);
    }

    // Promise 4: "whether some were not"

    private static void barredWhetherSomeWereNot() {
        LegalRows x = new LegalRows(2, 20);
        Checks.due("all of them new", true, () -> x.bar(0, 5, 8));
        Checks.due("none of them new", false, () -> x.bar(0, 5, 8));
        Checks.due("one new on the left", true, () -> x.bar(0, 4, 8));
        Checks.due("one new on the right", true, () -> x.bar(0, 4, 9));
        Checks.due("all known", false, () -> x.bar(0, 4, 9));
        Checks.due("apart", true, () -> x.bar(0, 10, 12));
        Checks.due("one new in the middle", true, () -> x.bar(0, 4, 12));
        Checks.due("joined, all known", false, () -> x.bar(0, 4, 12));
        Checks.due("none where there are none", false, () -> x.bar(0, 20, 20));
        Checks.due("side by side", true, () -> x.bar(0, 12, 20));
        Checks.due("all of the row but four", true, () -> x.bar(0, 0, 20));
        Checks.due("all of the row", false, () -> x.bar(0, 0, 20));
        Checks.due("the other row", true, () -> x.bar(1, 0, 20));
        dueAllNew("from the left", 0, 1, 2, 3, 4);
        dueAllNew("from the right", 4, 3, 2, 1, 0);
        dueAllNew("from the right, then from the left", 4, 3, 1, 0, 2);
        dueAllNew("every second one first", 1, 3, 0, 2, 4);
    }

    private static void dueAllNew(String order, int... sites) {
        LegalRows x = new LegalRows(1, sites.length);
        for (int site : sites) {
            Checks.due("one by one " + order, true, () -> x.bar(0, site, site + 1));
        }
        Checks.due("all of them " + order, false, () -> x.bar(0, 0, sites.length));
    }

    // Promise 5: "IndexOutOfBoundsException; IllegalArgumentException: no such kind"

    private static void kindsOfWhichCell() {
        LegalRows x = withWidths(1, 10, 1, 1);
        for (int cell : new int[] {-1, 2, 60, Integer.MIN_VALUE, Integer.MAX_VALUE}) {
            Checks.dueThrows("kind(" + cell + ", 1, 1)", NO_SUCH, () -> x.kind(cell, 1, 1));
        }
        Checks.due("kind(0, 1, 1)", true, () -> x.kind(0, 1, 1));
        Checks.due("kind(1, 1, 1)", true, () -> x.kind(1, 1, 1));
    }

    private static void kindsOfEdges() {
        LegalRows x = withWidths(1, 10, 1);
        for (int kind : new int[] {-1, 4, Integer.MIN_VALUE, Integer.MAX_VALUE}) {
            Checks.dueThrows("left kind " + kind, BAD_VALUE, () -> x.kind(0, kind, 1));
            Checks.dueThrows("right kind " + kind, BAD_VALUE, () -> x.kind(0, 1, kind));
            Checks.dueThrows("both kinds " + kind, BAD_VALUE, () -> x.kind(0, kind, kind));
        }
        Checks.due("still 0 and 0", false, () -> x.kind(0, 0, 0));
        Checks.due("left kind 3", true, () -> x.kind(0, 3, 0));
        Checks.due("right kind 3", true, () -> x.kind(0, 0, 3));
        Checks.due("back to 0", true, () -> x.kind(0, 0, 0));
    }

    // Promise 5: "whether one is another than before"; Terms: "(0 at first)"

    private static void kindsOtherThanBefore() {
        LegalRows x = withWidths(1, 10, 1, 1);
        Checks.due("0 at first", false, () -> x.kind(0, 0, 0));
        Checks.due("left alone", true, () -> x.kind(0, 1, 0));
        Checks.due("right alone", true, () -> x.kind(0, 1, 2));
        Checks.due("neither", false, () -> x.kind(0, 1, 2));
        Checks.due("left and right are not the same", true, () -> x.kind(0, 2, 1));
        Checks.due("the other cell's are its own", false, () -> x.kind(1, 0, 0));
    }

    // Promise 6: "no such kind, or sites2 is not 0 .. 20"

    private static void spacesOfWhichKinds() {
        LegalRows x = new LegalRows(1, 10);
        for (int kind : new int[] {-1, 4, Integer.MIN_VALUE, Integer.MAX_VALUE}) {
            Checks.dueThrows("first kind " + kind, BAD_VALUE, () -> x.space(kind, 1, 5));
            Checks.dueThrows("second kind " + kind, BAD_VALUE, () -> x.space(1, kind, 5));
            Checks.dueThrows("both kinds " + kind, BAD_VALUE, () -> x.space(kind, kind, 21));
        }
        for (int i = 0; i < 16; i++) {
            int a = i / 4;
            int b = i % 4;
            Checks.due("not set by another: " + a + " " + b, false, () -> x.space(a, b, 0));
            Checks.due("set: " + a + " " + b, true, () -> x.space(a, b, 5));
        }
    }

    private static void spacesHowWide() {
        LegalRows x = withCells(1, 100, 10, 40, 50);
        long[] wrong = {-1, 21, Long.MIN_VALUE, Long.MAX_VALUE, WRAPS_TO_0, WRAPS_TO_0 + 20};
        for (long sites : wrong) {
            Checks.dueThrows("space " + sites, BAD_VALUE, () -> x.space(0, 0, sites));
        }
        dueSites("no space by those", afterRun(x), 40, 50);
        Checks.due("space 20", true, () -> x.space(0, 0, 20));
        dueSites("20 sites between", afterRun(x), 20, 50);
        Checks.due("space 1", true, () -> x.space(0, 0, 1));
        dueSites("1 site between", afterRun(x), 39, 50);
        Checks.due("space 0", true, () -> x.space(0, 0, 0));
        dueSites("no site between", afterRun(x), 40, 50);
    }

    // Promise 6: "a of the left cell's right edge, b of the right one's left edge; not the other
    // way round"

    private static void spacesNotTheOtherWayRound() {
        for (int i = 0; i < 16; i++) {
            int a = i / 4;
            int b = i % 4;
            LegalRows x = withCells(1, 100, 10, 40, 50);
            x.kind(0, (b + 1) % 4, a);
            x.kind(1, b, (a + 1) % 4);
            x.space(a, b, 7);
            dueSites("space of " + a + " before " + b, afterRun(x), 33, 50);
            x.space(a, b, 0);
            for (int j = 0; j < 16; j++) {
                if (j != i) {
                    x.space(j / 4, j % 4, 7);
                }
            }
            dueSites("all spaces but " + a + " before " + b, afterRun(x), 40, 50);
        }
    }

    // Promise 6: "whether it is another than before"; Terms: "(0 at first)"

    private static void spacesOtherThanBefore() {
        LegalRows x = new LegalRows(1, 10);
        Checks.due("0 at first", false, () -> x.space(1, 2, 0));
        Checks.due("another", true, () -> x.space(1, 2, 20));
        Checks.due("the same", false, () -> x.space(1, 2, 20));
        Checks.due("the other way round it is 0", false, () -> x.space(2, 1, 0));
        Checks.due("one less", true, () -> x.space(1, 2, 19));
    }

    // Promise 7: "0, or 1 and the number of the cell for which there is none"

    private static void runWithNothingToPlace() {
        LegalRows x = new LegalRows(1, 1);
        Checks.dueThrows("moved() before", BAD_STATE, () -> x.moved());
        afterRun(x);
        Checks.due("moved()", 0L, () -> x.moved());
        Checks.due("wire()", 0L, () -> x.wire());
        Checks.due("overlap()", false, () -> x.overlap());
        Checks.due("improve(1)", 0, () -> x.improve(1));
        Checks.dueThrows("at(0)", NO_SUCH, () -> x.at(0));
        x.bar(0, 0, 1);
        Checks.dueThrows("moved() after a bar", BAD_STATE, () -> x.moved());
        afterRun(x);
        Checks.due("moved() with nothing free", 0L, () -> x.moved());
        x.cell(1, 1);
        dueTold("a cell with nothing free", x, 0);
    }

    private static void runTellsOneAndTheNumber() {
        dueTold("the first one", withWidths(16, 39, 40), 0);
        LegalRows last = new LegalRows(1, 59);
        for (int i = 0; i < 60; i++) {
            last.cell(1, 1);
        }
        dueTold("the last one", last, 59);
        last.want(58, 1, 0);
        dueTold("the last one in order", last, 58);
        LegalRows between = withWidths(1, 39, 1, 40, 1);
        dueTold("one between, though others fit", between, 1);
        dueTold("the same again", between, 1);
    }

    private static void runOfSixtyInFullRows() {
        LegalRows x = new LegalRows(3, 800);
        for (int i = 0; i < 60; i++) {
            x.cell(40, 1);
        }
        afterRun(x);
        Checks.due("overlap() of full rows", false, () -> x.overlap());
        Checks.due("moved() of full rows", 3 * 40L * 190 + 20L * 20 + 40L * 20, () -> x.moved());
        x.bar(1, 799, 800);
        Checks.due("one site too few", 60, () -> x.run());
    }

    // Promises 8 and 9

    private static void atFirstAndLastSite() {
        LegalRows x = afterRun(withCells(1, 1000, 1, 0, 999));
        dueSites("first and last site", x, 0, 999);
        LegalRows wide = afterRun(withCells(1, 1000, 40, 0, 999));
        dueSites("first and last place of 40", wide, 0, 960);
        dueSites("the only site", afterRun(withCells(1, 1, 1, 0)), 0);
    }

    private static void rowOfFirstAndLastRow() {
        LegalRows x = withCells(16, 10, 1, 0, 0);
        x.want(1, 0, 15);
        dueRows("first and last row", afterRun(x), 0, 15);
    }

    /** A cell that is not there is refused before it is asked whether there are places. */
    private static void cellsThatAreAsked() {
        LegalRows x = withWidths(1, 10, 1, 1);
        for (int round = 0; round < 2; round++) {
            for (int cell : new int[] {-1, 2, 59, 60, Integer.MIN_VALUE, Integer.MAX_VALUE}) {
                Checks.dueThrows("at(" + cell + ")", NO_SUCH, () -> x.at(cell));
                Checks.dueThrows("rowOf(" + cell + ")", NO_SUCH, () -> x.rowOf(cell));
                Checks.dueThrows("mirrored(" + cell + ")", NO_SUCH, () -> x.mirrored(cell));
            }
            if (round == 0) {
                dueNoPlaces("no run() yet", x);
                afterRun(x);
            }
        }
        dueSites("the last cell", x, 0, 1);
        dueRows("the last cell", x, 0, 0);
        Checks.due("mirrored of the last cell", false, () -> x.mirrored(1));
    }

    // Promise 10: "sites, and 20 for each row"

    private static void movedFromNothingToTheMost() {
        Checks.due("nothing", 0L, () -> afterRun(withCells(2, 10, 1, 9, 0)).moved());
        LegalRows right = withCells(1, 1000, 1, 0);
        right.bar(0, 0, 999);
        Checks.due("to the right", 999L, () -> afterRun(right).moved());
        LegalRows left = withCells(1, 1000, 1, 999);
        left.bar(0, 1, 1000);
        Checks.due("to the left", 999L, () -> afterRun(left).moved());
        LegalRows down = withCells(16, 1, 1, 0);
        down.want(0, 0, 15);
        for (int row = 1; row < 16; row++) {
            down.bar(row, 0, 1);
        }
        Checks.due("15 rows down", 300L, () -> afterRun(down).moved());
        LegalRows up = withCells(2, 1, 1, 0);
        up.bar(0, 0, 1);
        Checks.due("one row up", 20L, () -> afterRun(up).moved());
    }

    // Promise 11: "in rows 1, 3, 5, .."

    private static void mirroredInOddRows() {
        LegalRows x = withCells(16, 10, 1, new long[16]);
        for (int row = 0; row < 16; row++) {
            x.want(row, 0, row);
        }
        afterRun(x);
        for (int row = 0; row < 16; row++) {
            int cell = row;
            boolean odd = (row & 1) != 0;
            Checks.due("in row " + row, odd, () -> x.mirrored(cell));
        }
        // By the row where it is, not by that where it is wanted.
        x.bar(15, 0, 10);
        afterRun(x);
        Checks.due("from row 15 to 14", false, () -> x.mirrored(15));
    }

    // Promise 12: "Exchanges, steps at most: how many there were"; "steps are below 0"

    private static LegalRows threeExchanges() {
        LegalRows x = withCells(1, 5, 1, 0, 1, 2, 3, 4);
        x.net(0, 4);
        afterRun(x);
        return x;
    }

    private static void improveSteps() {
        LegalRows x = threeExchanges();
        Checks.dueThrows("improve(-1)", BAD_VALUE, () -> x.improve(-1));
        Checks.dueThrows("improve(-2^31)", BAD_VALUE, () -> x.improve(Integer.MIN_VALUE));
        Checks.due("no step by those", 8L, () -> x.wire());
        Checks.due("as many as there are", 3, () -> threeExchanges().improve(3));
        Checks.due("one less", 2, () -> threeExchanges().improve(2));
        Checks.due("one more", 3, () -> threeExchanges().improve(4));
        Checks.due("2^31 - 1", 3, () -> threeExchanges().improve(Integer.MAX_VALUE));
        for (int step = 0; step < 3; step++) {
            Checks.due("one at a time", 1, () -> x.improve(1));
        }
        Checks.due("no further one", 0, () -> x.improve(1));
        Checks.due("the least wire", 2L, () -> x.wire());
    }

    private static void improveWithoutSteps() {
        LegalRows x = threeExchanges();
        Checks.due("improve(0)", 0, () -> x.improve(0));
        dueSites("nothing changed places", x, 0, 1, 2, 3, 4);
        Checks.due("wire() as before", 8L, () -> x.wire());
        LegalRows none = afterRun(withCells(1, 5, 1, 0, 1));
        Checks.due("without nets", 0, () -> none.improve(9));
        LegalRows one = afterRun(withCells(1, 5, 1, 0));
        Checks.due("of one cell", 0, () -> one.improve(9));
    }

    // Promise 13

    private static void netsOfWhichCells() {
        LegalRows x = withWidths(1, 10, 1, 1);
        for (int cell : new int[] {-1, 2, 60, Integer.MIN_VALUE, Integer.MAX_VALUE}) {
            Checks.dueThrows("net(" + cell + ", 0)", NO_SUCH, () -> x.net(cell, 0));
            Checks.dueThrows("net(1, " + cell + ")", NO_SUCH, () -> x.net(1, cell));
            Checks.dueThrows("net of twice " + cell, NO_SUCH, () -> x.net(cell, cell));
        }
        Checks.due("net(0, 1)", 0, () -> x.net(0, 1));
        Checks.due("net(1, 0)", 1, () -> x.net(1, 0));
    }

    private static void netsOfOneCell() {
        LegalRows x = withWidths(1, 10, 1, 1);
        Checks.dueThrows("net(0, 0)", BAD_VALUE, () -> x.net(0, 0));
        Checks.dueThrows("net(1, 1)", BAD_VALUE, () -> x.net(1, 1));
        Checks.due("they had no number", 0, () -> x.net(0, 1));
        Checks.due("the same two again", 1, () -> x.net(0, 1));
    }

    private static void netsAreEighty() {
        LegalRows x = withWidths(1, 10, 1, 1);
        for (int i = 0; i < 79; i++) {
            int number = i;
            Checks.due("net " + number, number, () -> x.net(0, 1));
        }
        Checks.dueThrows("one of one cell", BAD_VALUE, () -> x.net(1, 1));
        Checks.dueThrows("one of no cell", NO_SUCH, () -> x.net(0, 2));
        afterRun(x);
        Checks.due("wire() of 79", 79 * 2L, () -> x.wire());
        Checks.due("net 79", 79, () -> x.net(1, 0));
        for (int i = 0; i < 3; i++) {
            Checks.dueThrows("net 80", BAD_STATE, () -> x.net(0, 1));
        }
        Checks.due("wire() of 80", 80 * 2L, () -> x.wire());
        afterRun(x);
        Checks.dueThrows("net 80 after run()", BAD_STATE, () -> x.net(0, 1));
        Checks.due("wire() of 80 again", 80 * 2L, () -> x.wire());
    }

    // Promise 14

    private static void wireFromNothingOn() {
        LegalRows x = withCells(16, 1000, 1, 0, 1);
        afterRun(x);
        Checks.due("no net", 0L, () -> x.wire());
        x.net(0, 1);
        Checks.due("side by side", 2L, () -> x.wire());
        x.want(1, 999, 0);
        afterRun(x);
        Checks.due("from end to end", 2 * 999L, () -> x.wire());
        x.want(1, 999, 15);
        afterRun(x);
        Checks.due("from corner to corner", 2 * 999L + 40 * 15L, () -> x.wire());
        x.want(1, 0, 15);
        afterRun(x);
        Checks.due("over rows alone", 40 * 15L, () -> x.wire());
        x.want(1, 0, 1);
        afterRun(x);
        Checks.due("over one row", 40L, () -> x.wire());
        x.want(0, 0, 14);
        x.want(1, 0, 15);
        afterRun(x);
        Checks.due("over one row, the last", 40L, () -> x.wire());
        x.want(0, 1, 15);
        afterRun(x);
        Checks.due("over no row, the last", 2L, () -> x.wire());
        LegalRows half = withWidths(2, 10, 1, 2, 2);
        half.want(1, 0, 1);
        half.want(2, 2, 1);
        half.net(0, 1);
        afterRun(half);
        Checks.due("half a site to the right", 1L + 40L, () -> half.wire());
        half.net(2, 0);
        Checks.due("and to the left", 41L + 5L + 40L, () -> half.wire());
    }

    // Promise 15: "Whether two cells have a site in common, or one a barred site"

    private static void overlapOfNeighbours() {
        LegalRows x = withCells(2, 6, 2, 0, 2, 4);
        afterRun(x);
        dueSites("side by side", x, 0, 2, 4);
        Checks.due("side by side", false, () -> x.overlap());
        LegalRows back = withCells(1, 6, 2, 4, 2, 0);
        afterRun(back);
        dueSites("side by side from the right", back, 4, 2, 0);
        Checks.due("side by side from the right", false, () -> back.overlap());
        x.bar(0, 2, 4);
        afterRun(x);
        Checks.due("side by side with a bar", false, () -> x.overlap());
        LegalRows rows = withCells(2, 2, 2, 0, 0);
        rows.want(1, 0, 1);
        afterRun(rows);
        Checks.due("the same sites of other rows", false, () -> rows.overlap());
        LegalRows full = withCells(1, 60, 1, new long[60]);
        afterRun(full);
        Checks.due("a full row", false, () -> full.overlap());
    }
}
