/** For each promise: ordinary inputs, the edges that the document names, and wrong inputs. */
public final class PromiseTest extends Scenes {
    public static void main(String[] args) {
        newObject();
        cellNumbers();
        cellWrong();
        wantAnswers();
        wantWrong();
        barAnswers();
        barWrong();
        kindAnswersAndWrong();
        spaceAnswersAndWrong();
        runOfNothing();
        runLaysNearest();
        runTakesTheLeftmostOfSeveral();
        runGoesByWantedSitesThenNumbers();
        runKeepsSpaces();
        runWeighsRows();
        runTakesTheFirstOfSeveralParts();
        runCountsWhatOthersMove();
        runKeepsOutOfBarredSites();
        runTellsTheCell();
        placesEndWithAChange();
        placesStayWithoutAChange();
        atAndRowOfWrong();
        movedCounts();
        mirroredByRows();
        improveExchanges();
        improveStepsAndOrder();
        improveOnlyAlike();
        improveWrong();
        netNumbersAndWrong();
        wireCounts();
        overlapIsNone();
        Checks.due("NONE", -1, () -> LegalRows.NONE);
        Checks.end("PromiseTest");
    }

    // Promise 1

    private static void newObject() {
        dueSize(-5, -5L, 1, 1);
        dueSize(0, 0L, 1, 1);
        dueSize(1, 1L, 1, 1);
        dueSize(3, 30L, 3, 30);
        dueSize(16, 1000L, 16, 1000);
        dueSize(17, 1001L, 16, 1000);
        dueSize(Integer.MIN_VALUE, Long.MIN_VALUE, 1, 1);
        dueSize(Integer.MAX_VALUE, Long.MAX_VALUE, 16, 1000);
        dueSize(2, (1L << 32) + 7, 2, 1000);
    }

    private static void dueSize(int rows, long sites, int dueRows, long dueSites) {
        LegalRows x = new LegalRows(rows, sites);
        String made = "new(" + rows + ", " + sites + "): ";
        Checks.dueThrows(made + "want(0, 0, 0)", NO_SUCH, () -> x.want(0, 0, 0));
        Checks.dueThrows(made + "at(0)", NO_SUCH, () -> x.at(0));
        Checks.dueThrows(made + "moved()", BAD_STATE, () -> x.moved());
        Checks.due(made + "cell", 0, () -> x.cell(1, 1));
        Checks.dueThrows(made + "row behind the last", NO_SUCH, () -> x.bar(dueRows, 0, 0));
        Checks.dueThrows(made + "site behind the last", NO_SUCH, () -> x.want(0, dueSites, 0));
        x.want(0, dueSites - 1, dueRows - 1);
        afterRun(x);
        Checks.due(made + "moved()", 0L, () -> x.moved());
        for (int row = 0; row < dueRows; row++) {
            int barred = row;
            Checks.due(made + "all free", true, () -> x.bar(barred, 0, 1));
            Checks.due(made + "all but one free", dueSites > 1, () -> x.bar(barred, 0, dueSites));
        }
    }

    // Promise 2

    private static void cellNumbers() {
        LegalRows x = new LegalRows(2, 100);
        Checks.due("cell(1, 1)", 0, () -> x.cell(1, 1));
        Checks.due("cell(40, 1)", 1, () -> x.cell(40, 1));
        for (int i = 2; i < 60; i++) {
            Checks.due("cell(2, 1)", i, () -> x.cell(2, 1));
        }
        Checks.dueThrows("cell 60", BAD_STATE, () -> x.cell(2, 1));
        Checks.dueThrows("cell 60 of no width", BAD_STATE, () -> x.cell(0, 2));
        Checks.due("the last one is there", false, () -> x.want(59, 0, 0));
        Checks.dueThrows("no further one is there", NO_SUCH, () -> x.want(60, 0, 0));
    }

    private static void cellWrong() {
        LegalRows x = new LegalRows(2, 100);
        Checks.dueThrows("cell(0, 1)", BAD_VALUE, () -> x.cell(0, 1));
        Checks.dueThrows("cell(41, 1)", BAD_VALUE, () -> x.cell(41, 1));
        Checks.dueThrows("cell(-1, 1)", BAD_VALUE, () -> x.cell(-1, 1));
        Checks.dueThrows("cell(2^32 + 1, 1)", BAD_VALUE, () -> x.cell((1L << 32) + 1, 1));
        Checks.dueThrows("cell(5, 0)", BAD_VALUE, () -> x.cell(5, 0));
        Checks.dueThrows("cell(5, 2)", BAD_VALUE, () -> x.cell(5, 2));
        afterRun(x);
        Checks.dueThrows("cell(0, 1)", BAD_VALUE, () -> x.cell(0, 1));
        Checks.due("moved() after a cell that is none", 0L, () -> x.moved());
        Checks.due("cell(5, 1)", 0, () -> x.cell(5, 1));
    }

    // Promise 3

    private static void wantAnswers() {
        LegalRows x = new LegalRows(3, 50);
        x.cell(4, 1);
        Checks.due("want(0, 0, 0)", false, () -> x.want(0, 0, 0));
        Checks.due("want(0, 49, 0)", true, () -> x.want(0, 49, 0));
        Checks.due("want(0, 49, 0) again", false, () -> x.want(0, 49, 0));
        Checks.due("want(0, 49, 2)", true, () -> x.want(0, 49, 2));
        Checks.due("want(0, 10, 2)", true, () -> x.want(0, 10, 2));
        afterRun(x);
        dueSites("wanted", x, 10);
        dueRows("wanted", x, 2);
    }

    private static void wantWrong() {
        LegalRows x = new LegalRows(3, 50);
        x.cell(4, 1);
        x.want(0, 7, 1);
        Checks.dueThrows("want(-1, ..)", NO_SUCH, () -> x.want(-1, 0, 0));
        Checks.dueThrows("want(1, ..)", NO_SUCH, () -> x.want(1, 0, 0));
        Checks.dueThrows("want(0, -1, 0)", NO_SUCH, () -> x.want(0, -1, 0));
        Checks.dueThrows("want(0, 50, 0)", NO_SUCH, () -> x.want(0, 50, 0));
        Checks.dueThrows("want(0, 2^32, 0)", NO_SUCH, () -> x.want(0, 1L << 32, 0));
        Checks.dueThrows("want(0, 0, -1)", NO_SUCH, () -> x.want(0, 0, -1));
        Checks.dueThrows("want(0, 0, 3)", NO_SUCH, () -> x.want(0, 0, 3));
        Checks.due("want(0, 7, 1) after wrong ones", false, () -> x.want(0, 7, 1));
    }

    // Promise 4

    private static void barAnswers() {
        LegalRows x = new LegalRows(2, 30);
        Checks.due("bar(0, 5, 5)", false, () -> x.bar(0, 5, 5));
        Checks.due("bar(0, 30, 30)", false, () -> x.bar(0, 30, 30));
        Checks.due("bar(0, 5, 10)", true, () -> x.bar(0, 5, 10));
        Checks.due("bar(0, 5, 10) again", false, () -> x.bar(0, 5, 10));
        Checks.due("bar(0, 6, 9)", false, () -> x.bar(0, 6, 9));
        Checks.due("bar(0, 9, 11)", true, () -> x.bar(0, 9, 11));
        Checks.due("bar(0, 20, 30)", true, () -> x.bar(0, 20, 30));
        Checks.due("bar(0, 4, 11)", true, () -> x.bar(0, 4, 11));
        Checks.due("bar(0, 4, 11) again", false, () -> x.bar(0, 4, 11));
        Checks.due("bar(1, 5, 10)", true, () -> x.bar(1, 5, 10));
        Checks.due("bar(0, 0, 30)", true, () -> x.bar(0, 0, 30));
        Checks.due("bar(0, 0, 30) again", false, () -> x.bar(0, 0, 30));
        Checks.due("bar(1, 0, 5)", true, () -> x.bar(1, 0, 5));
        Checks.due("bar(1, 0, 10)", false, () -> x.bar(1, 0, 10));
        Checks.due("bar(1, 10, 30)", true, () -> x.bar(1, 10, 30));
        Checks.due("bar(1, 0, 30)", false, () -> x.bar(1, 0, 30));
    }

    private static void barWrong() {
        LegalRows x = new LegalRows(2, 30);
        Checks.dueThrows("bar(-1, 0, 1)", NO_SUCH, () -> x.bar(-1, 0, 1));
        Checks.dueThrows("bar(2, 0, 1)", NO_SUCH, () -> x.bar(2, 0, 1));
        Checks.dueThrows("bar(0, -1, 1)", NO_SUCH, () -> x.bar(0, -1, 1));
        Checks.dueThrows("bar(0, 31, 31)", NO_SUCH, () -> x.bar(0, 31, 31));
        Checks.dueThrows("bar(0, 5, 4)", NO_SUCH, () -> x.bar(0, 5, 4));
        Checks.dueThrows("bar(0, 0, 31)", NO_SUCH, () -> x.bar(0, 0, 31));
        Checks.dueThrows("bar(0, 0, 2^32 + 1)", NO_SUCH, () -> x.bar(0, 0, (1L << 32) + 1));
        Checks.dueThrows("bar(0, -2^63, 1)", NO_SUCH, () -> x.bar(0, Long.MIN_VALUE, 1));
        Checks.due("bar(0, 0, 1) after wrong ones", true, () -> x.bar(0, 0, 1));
    }

    // Promises 5 and 6

    private static void kindAnswersAndWrong() {
        LegalRows x = new LegalRows(1, 30);
        x.cell(3, 1);
        Checks.due("kind(0, 0, 0)", false, () -> x.kind(0, 0, 0));
        Checks.due("kind(0, 3, 0)", true, () -> x.kind(0, 3, 0));
        Checks.due("kind(0, 3, 3)", true, () -> x.kind(0, 3, 3));
        Checks.due("kind(0, 3, 3) again", false, () -> x.kind(0, 3, 3));
        Checks.dueThrows("kind(1, 0, 0)", NO_SUCH, () -> x.kind(1, 0, 0));
        Checks.dueThrows("kind(-1, 0, 0)", NO_SUCH, () -> x.kind(-1, 0, 0));
        Checks.dueThrows("kind(1, 4, 4)", NO_SUCH, () -> x.kind(1, 4, 4));
        Checks.dueThrows("kind(0, 4, 0)", BAD_VALUE, () -> x.kind(0, 4, 0));
        Checks.dueThrows("kind(0, 0, 4)", BAD_VALUE, () -> x.kind(0, 0, 4));
        Checks.dueThrows("kind(0, -1, 0)", BAD_VALUE, () -> x.kind(0, -1, 0));
        Checks.dueThrows("kind(0, 0, -1)", BAD_VALUE, () -> x.kind(0, 0, -1));
        Checks.due("kind(0, 3, 3) after wrong ones", false, () -> x.kind(0, 3, 3));
    }

    private static void spaceAnswersAndWrong() {
        LegalRows x = new LegalRows(1, 30);
        Checks.due("space(0, 0, 0)", false, () -> x.space(0, 0, 0));
        Checks.due("space(1, 2, 20)", true, () -> x.space(1, 2, 20));
        Checks.due("space(1, 2, 20) again", false, () -> x.space(1, 2, 20));
        Checks.due("space(2, 1, 0)", false, () -> x.space(2, 1, 0));
        Checks.due("space(3, 3, 1)", true, () -> x.space(3, 3, 1));
        Checks.due("space(3, 3, 0)", true, () -> x.space(3, 3, 0));
        Checks.dueThrows("space(4, 0, 0)", BAD_VALUE, () -> x.space(4, 0, 0));
        Checks.dueThrows("space(0, 4, 0)", BAD_VALUE, () -> x.space(0, 4, 0));
        Checks.dueThrows("space(-1, 0, 0)", BAD_VALUE, () -> x.space(-1, 0, 0));
        Checks.dueThrows("space(0, -1, 0)", BAD_VALUE, () -> x.space(0, -1, 0));
        Checks.dueThrows("space(1, 2, 21)", BAD_VALUE, () -> x.space(1, 2, 21));
        Checks.dueThrows("space(1, 2, -1)", BAD_VALUE, () -> x.space(1, 2, -1));
        Checks.dueThrows("space(1, 2, 2^32)", BAD_VALUE, () -> x.space(1, 2, 1L << 32));
        Checks.due("space(1, 2, 20) after wrong ones", false, () -> x.space(1, 2, 20));
    }

    // Promise 7, seen by 8 and 9

    private static void runOfNothing() {
        LegalRows x = afterRun(new LegalRows(2, 10));
        Checks.due("moved() of nothing", 0L, () -> x.moved());
        Checks.due("wire() of nothing", 0L, () -> x.wire());
        Checks.due("overlap() of nothing", false, () -> x.overlap());
        Checks.due("improve(5) of nothing", 0, () -> x.improve(5));
    }

    private static void runLaysNearest() {
        dueSites("apart", afterRun(withCells(1, 40, 4, 5, 20, 30)), 5, 20, 30);
        dueSites("at the end", afterRun(withCells(1, 40, 4, 39)), 36);
        dueSites("pushed from the end", afterRun(withCells(1, 40, 4, 34, 38)), 32, 36);
        dueSites("the middle one stays", afterRun(withCells(1, 40, 4, 10, 12, 14)), 8, 12, 16);
        dueSites("one just full", afterRun(withCells(1, 8, 4, 7, 7)), 0, 4);
    }

    private static void runTakesTheLeftmostOfSeveral() {
        dueSites("two for one site", afterRun(withCells(1, 40, 4, 20, 20)), 16, 20);
        dueSites("two near each other", afterRun(withCells(1, 40, 4, 10, 12)), 8, 12);
        dueSites("no farther than the start", afterRun(withCells(1, 40, 4, 1, 1)), 0, 4);
        dueSites("four for one site", afterRun(withCells(1, 40, 2, 20, 20, 20, 20)),
                16, 18, 20, 22);
    }

    private static void runGoesByWantedSitesThenNumbers() {
        dueSites("by sites", afterRun(withCells(1, 40, 4, 21, 20, 19)), 24, 20, 16);
        dueSites("by numbers", afterRun(withCells(1, 40, 4, 20, 10, 20)), 16, 10, 20);
    }

    private static void runKeepsSpaces() {
        LegalRows x = withCells(1, 40, 4, 20, 22);
        x.space(1, 2, 3);
        x.kind(0, 2, 1);
        x.kind(1, 2, 1);
        afterRun(x);
        dueSites("space of 1 before 2", x, 15, 22);
        x.kind(0, 1, 2);
        x.kind(1, 1, 2);
        dueSites("not the other way round", afterRun(x), 18, 22);
        LegalRows full = withCells(1, 10, 4, 0, 0);
        full.space(0, 0, 2);
        dueSites("a space that just fits", afterRun(full), 0, 6);
        full.space(0, 0, 3);
        Checks.due("a space too wide", 2, () -> full.run());
        LegalRows parts = withCells(1, 10, 4, 0, 0);
        parts.space(0, 0, 20);
        parts.bar(0, 4, 5);
        dueSites("no space between parts", afterRun(parts), 0, 5);
    }

    private static void runWeighsRows() {
        // Side by side in row 0 costs as many sites as the width; the next row costs 20.
        LegalRows cheap = afterRun(withCells(2, 100, 19, 40, 40));
        dueRows("19 sites are less than a row", cheap, 0, 0);
        LegalRows same = afterRun(withCells(2, 100, 20, 40, 40));
        dueRows("20 sites are no more than a row", same, 0, 0);
        LegalRows dear = afterRun(withCells(2, 100, 21, 40, 40));
        dueRows("21 sites are more than a row", dear, 0, 1);
        dueSites("in another row", dear, 40, 40);
        LegalRows both = withCells(3, 100, 40, 30, 30, 30);
        for (int cell = 0; cell < 3; cell++) {
            both.want(cell, 30, 1);
        }
        dueRows("first row of the same cost first", afterRun(both), 1, 0, 2);
        LegalRows far = withCells(3, 10, 10, 0, 0, 0);
        dueRows("each farther row", afterRun(far), 0, 1, 2);
        Checks.due("20 for each row", 60L, () -> far.moved());
    }

    private static void runTakesTheFirstOfSeveralParts() {
        LegalRows x = withCells(1, 21, 1, 10);
        x.bar(0, 8, 13);
        dueSites("the part on the left", afterRun(x), 7);
        LegalRows rows = withCells(2, 20, 4, 0);
        rows.want(0, 0, 1);
        rows.bar(1, 0, 20);
        dueRows("the row that is there", afterRun(rows), 0);
        LegalRows mixed = withCells(2, 60, 4, 10);
        mixed.want(0, 10, 1);
        mixed.bar(1, 0, 30);
        afterRun(mixed);
        dueRows("row 0 for 20, row 1 for 20 sites", mixed, 0);
        dueSites("row 0 for 20, row 1 for 20 sites", mixed, 10);
        LegalRows crowded = withCells(3, 60, 10, 30, 30, 34);
        crowded.want(1, 30, 2);
        crowded.want(2, 34, 1);
        crowded.bar(1, 0, 60);
        afterRun(crowded);
        dueRows("rows 0 and 2 both for 20 and 6 sites", crowded, 0, 2, 0);
    }

    private static void runCountsWhatOthersMove() {
        // In row 0 the new one would move 11 and the others 10 more: that is dearer than a row.
        LegalRows x = withCells(2, 60, 12, 20, 32, 34, 35);
        afterRun(x);
        dueRows("a row is less", x, 0, 0, 0, 1);
        dueSites("a row is less", x, 20, 32, 44, 35);
        Checks.due("moved() by the least", 10L + 20L, () -> x.moved());
        // Now the same less one site each: it is cheaper than a row.
        LegalRows y = withCells(2, 60, 11, 20, 31, 33, 34);
        afterRun(y);
        dueRows("a row is more", y, 0, 0, 0, 0);
        dueSites("a row is more", y, 11, 22, 33, 44);
        Checks.due("moved() by the least", 9L + 19L, () -> y.moved());
    }

    private static void runKeepsOutOfBarredSites() {
        LegalRows x = withCells(1, 30, 5, 10, 10);
        x.bar(0, 12, 13);
        dueSites("left of the bar and right of it", afterRun(x), 7, 13);
        LegalRows narrow = withCells(2, 30, 5, 10);
        narrow.bar(0, 4, 5);
        narrow.bar(0, 9, 10);
        narrow.bar(0, 14, 30);
        afterRun(narrow);
        dueRows("parts below its width are none", narrow, 1);
    }

    private static void runTellsTheCell() {
        LegalRows x = withCells(1, 10, 4, 5, 0, 9);
        Checks.due("run() without a place for 2", 3, () -> x.run());
        Checks.dueThrows("at(0) then", BAD_STATE, () -> x.at(0));
        Checks.dueThrows("rowOf(1) then", BAD_STATE, () -> x.rowOf(1));
        x.want(2, 4, 0);
        Checks.due("run() without a place for 0", 1, () -> x.run());
        x.bar(0, 0, 10);
        Checks.due("run() without a place for 1", 2, () -> x.run());
        LegalRows wide = withCells(16, 30, 31, 0);
        Checks.due("run() of one too wide", 1, () -> wide.run());
    }

    // What needs places

    private static void placesEndWithAChange() {
        duePlacesGone("cell", x -> x.cell(1, 1));
        duePlacesGone("want", x -> x.want(0, 1, 0));
        duePlacesGone("want another row", x -> x.want(0, 0, 1));
        duePlacesGone("bar", x -> x.bar(1, 29, 30));
        duePlacesGone("left kind", x -> x.kind(0, 1, 0));
        duePlacesGone("right kind", x -> x.kind(0, 0, 1));
        duePlacesGone("space", x -> x.space(3, 3, 1));
        duePlacesGone("there and back", x -> x.want(0, 1, 0) && x.want(0, 0, 0));
    }

    private static void duePlacesGone(String what, Use change) {
        LegalRows x = afterRun(withCells(2, 30, 3, 0, 10));
        change.on(x);
        dueNoPlaces(what, x);
        Checks.dueThrows(what + ": improve(-1)", BAD_STATE, () -> x.improve(-1));
        afterRun(x);
        Checks.due(what + ": rowOf(1)", 0, () -> x.rowOf(1));
    }

    private static void placesStayWithoutAChange() {
        LegalRows x = afterRun(withCells(2, 30, 3, 4, 10));
        x.bar(0, 9, 9);
        x.want(0, 4, 0);
        x.kind(0, 0, 0);
        x.space(0, 0, 0);
        x.net(0, 1);
        x.improve(3);
        Checks.dueThrows("cell(0, 1)", BAD_VALUE, () -> x.cell(0, 1));
        Checks.dueThrows("want(0, 30, 0)", NO_SUCH, () -> x.want(0, 30, 0));
        Checks.dueThrows("bar(0, 0, 31)", NO_SUCH, () -> x.bar(0, 0, 31));
        Checks.dueThrows("kind(0, 1, 4)", BAD_VALUE, () -> x.kind(0, 1, 4));
        Checks.dueThrows("space(0, 0, 21)", BAD_VALUE, () -> x.space(0, 0, 21));
        dueSites("nothing changed", x, 4, 10);
    }

    // Promises 8 and 9

    private static void atAndRowOfWrong() {
        LegalRows x = withCells(2, 30, 3, 4);
        Checks.dueThrows("at(0) before run()", BAD_STATE, () -> x.at(0));
        Checks.dueThrows("rowOf(0) before run()", BAD_STATE, () -> x.rowOf(0));
        Checks.dueThrows("mirrored(0) before run()", BAD_STATE, () -> x.mirrored(0));
        dueNoSuchCell("before run()", x);
        afterRun(x);
        dueNoSuchCell("after run()", x);
    }

    private static void dueNoSuchCell(String when, LegalRows x) {
        for (int cell : new int[] {-1, 1, Integer.MAX_VALUE, Integer.MIN_VALUE}) {
            String of = "(" + cell + ") " + when;
            Checks.dueThrows("at" + of, NO_SUCH, () -> x.at(cell));
            Checks.dueThrows("rowOf" + of, NO_SUCH, () -> x.rowOf(cell));
            Checks.dueThrows("mirrored" + of, NO_SUCH, () -> x.mirrored(cell));
        }
    }

    // Promises 10 and 11

    private static void movedCounts() {
        LegalRows x = withCells(4, 10, 10, 9, 9);
        x.want(0, 9, 3);
        x.bar(3, 0, 1);
        x.bar(2, 0, 1);
        Checks.dueThrows("moved() before run()", BAD_STATE, () -> x.moved());
        afterRun(x);
        dueRows("moved", x, 1, 0);
        Checks.due("sites and rows", 9L + 2 * 20L + 9L, () -> x.moved());
    }

    private static void mirroredByRows() {
        LegalRows x = withCells(16, 5, 5, new long[16]);
        afterRun(x);
        for (int i = 0; i < 16; i++) {
            int cell = i;
            Checks.due("rowOf(" + cell + ")", cell, () -> x.rowOf(cell));
            Checks.due("mirrored(" + cell + ")", cell % 2 == 1, () -> x.mirrored(cell));
        }
    }

    // Promise 12

    private static void improveExchanges() {
        LegalRows x = withCells(1, 40, 4, 0, 10, 20, 30);
        x.net(0, 3);
        afterRun(x);
        Checks.due("wire() before", 60L, () -> x.wire());
        Checks.due("improve(0)", 0, () -> x.improve(0));
        Checks.due("improve(9)", 2, () -> x.improve(9));
        // 0 and 1 change first, then 0 and 2; then 0 and 3 are side by side.
        dueSites("after exchanges", x, 20, 0, 10, 30);
        Checks.due("wire() after", 20L, () -> x.wire());
        Checks.due("moved() after", 20L + 10L + 10L, () -> x.moved());
        Checks.due("overlap() after", false, () -> x.overlap());
        Checks.due("improve(9) again", 0, () -> x.improve(9));
        dueSites("after run() again", afterRun(x), 0, 10, 20, 30);
    }

    private static void improveStepsAndOrder() {
        LegalRows x = withCells(1, 40, 4, 0, 10, 20, 30);
        x.net(0, 3);
        afterRun(x);
        Checks.due("improve(1)", 1, () -> x.improve(1));
        dueSites("least a, then least b", x, 10, 0, 20, 30);
        Checks.due("wire() after one", 40L, () -> x.wire());
        Checks.due("improve(2^31 - 1)", 1, () -> x.improve(Integer.MAX_VALUE));
        LegalRows rows = withCells(3, 4, 4, 0, 0, 0);
        rows.net(0, 2);
        rows.net(2, 0);
        afterRun(rows);
        Checks.due("wire() over rows", 160L, () -> rows.wire());
        Checks.due("improve(1) over rows", 1, () -> rows.improve(1));
        dueRows("rows change too", rows, 1, 0, 2);
        Checks.due("mirrored(0) changes too", true, () -> rows.mirrored(0));
    }

    private static void improveOnlyAlike() {
        LegalRows width = withCells(1, 40, 4, 0, 10);
        width.cell(5, 1);
        width.want(2, 20, 0);
        width.net(0, 2);
        afterRun(width);
        Checks.due("improve(9) of one width", 1, () -> width.improve(9));
        dueSites("one width", width, 10, 0, 20);
        LegalRows left = withCells(1, 40, 4, 0, 10, 20);
        left.net(0, 2);
        left.kind(1, 1, 0);
        afterRun(left);
        Checks.due("improve(9) with another left kind", 0, () -> left.improve(9));
        LegalRows right = withCells(1, 40, 4, 0, 10, 20);
        right.net(0, 2);
        right.kind(1, 0, 1);
        afterRun(right);
        Checks.due("improve(9) with another right kind", 0, () -> right.improve(9));
        LegalRows same = afterRun(withCells(1, 40, 4, 0, 10));
        same.net(0, 1);
        Checks.due("improve(9) with no less wire", 0, () -> same.improve(9));
    }

    private static void improveWrong() {
        LegalRows x = withCells(1, 40, 4, 0);
        Checks.dueThrows("improve(1) before run()", BAD_STATE, () -> x.improve(1));
        Checks.dueThrows("improve(-1) before run()", BAD_STATE, () -> x.improve(-1));
        afterRun(x);
        Checks.dueThrows("improve(-1)", BAD_VALUE, () -> x.improve(-1));
        Checks.dueThrows("improve(-2^31)", BAD_VALUE, () -> x.improve(Integer.MIN_VALUE));
        Checks.due("improve(0)", 0, () -> x.improve(0));
    }

    // Promise 13

    private static void netNumbersAndWrong() {
        LegalRows x = withCells(1, 40, 4, 0, 10);
        Checks.dueThrows("net(0, 2)", NO_SUCH, () -> x.net(0, 2));
        Checks.dueThrows("net(-1, 0)", NO_SUCH, () -> x.net(-1, 0));
        Checks.dueThrows("net(2, 2)", NO_SUCH, () -> x.net(2, 2));
        Checks.dueThrows("net(1, 1)", BAD_VALUE, () -> x.net(1, 1));
        for (int i = 0; i < 80; i++) {
            int a = i % 2;
            Checks.due("net " + i, i, () -> x.net(a, 1 - a));
        }
        Checks.dueThrows("net 80", BAD_STATE, () -> x.net(0, 1));
        Checks.dueThrows("net 80 of one cell", BAD_STATE, () -> x.net(1, 1));
        Checks.dueThrows("net 80 of no cell", NO_SUCH, () -> x.net(0, 2));
        afterRun(x);
        Checks.due("wire() of 80", 80L * 20L, () -> x.wire());
    }

    // Promise 14

    private static void wireCounts() {
        LegalRows x = new LegalRows(4, 50);
        x.cell(3, 1);
        x.cell(6, 1);
        x.cell(1, 1);
        x.want(0, 10, 0);
        x.want(1, 20, 3);
        x.want(2, 12, 2);
        Checks.dueThrows("wire() before run()", BAD_STATE, () -> x.wire());
        afterRun(x);
        Checks.due("wire() without nets", 0L, () -> x.wire());
        x.net(0, 1);
        Checks.due("halves of sites, and rows", 23L + 120L, () -> x.wire());
        x.net(2, 0);
        Checks.due("two nets", 143L + 2L + 80L, () -> x.wire());
        x.net(0, 2);
        Checks.due("a net twice", 143L + 2 * 82L, () -> x.wire());
    }

    // Promise 15

    private static void overlapIsNone() {
        LegalRows x = withCells(2, 30, 5, 3, 3, 4, 4, 9, 29);
        Checks.dueThrows("overlap() before run()", BAD_STATE, () -> x.overlap());
        x.bar(0, 6, 8);
        x.bar(1, 10, 15);
        afterRun(x);
        Checks.due("overlap()", false, () -> x.overlap());
        x.net(0, 5);
        x.net(1, 5);
        x.improve(20);
        Checks.due("overlap() after exchanges", false, () -> x.overlap());
    }
}
