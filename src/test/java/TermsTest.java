/**
 * The boundary cases of the document's part 'Terms' and of what it says of all methods: each
 * sentence that names one has a method of its own, on both sides of the boundary.
 */
public final class TermsTest extends Scenes {
    public static void main(String[] args) {
        partsAreAsLongAsMayBe();
        partsEndWithTheirRow();
        partsAreInOrder();
        partsAsManyAsThereCanBe();

        spacesAreTheLeast();
        spacesOnlySideBySide();
        spacesOnlyInAPart();

        laidWithTheLeastSum();
        laidFarthestToTheLeft();
        laidAllInThePart();
        fitIfThereIsAnyWay();

        inOrderOfWantedSites();
        ofTheSameByNumbers();
        onlyWhereTheyFit();
        twentyForEachRow();
        costIsWhatIsAdded();
        ofSeveralTheFirstPart();
        nobodyIsAtAnyPlace();
        inTheEndWhereItIsLaid();

        exchangesOfTheSameWidth();
        exchangesOfTheSameKinds();
        exchangesOnlyForLessWire();
        exchangesByAllNetsOfACell();
        exchangesLeastPairFirst();
        exchangesFromRowToRow();

        theExceptionNamedFirst();
        noRunWasDone();
        changedSince();
        notChangedSince();
        thrownCallsChangeNothing();
        thrownCallsChangeNothingWhenFull();
        fiveHundredAndTwelveCalls();
        Checks.end("TermsTest");
    }

    // "A FREE PART of a row is a run of sites that are not barred, as long as may be"

    private static void partsAreAsLongAsMayBe() {
        LegalRows whole = withWidths(1, 10, 10);
        whole.bar(0, 5, 5);
        afterRun(whole);
        whole.bar(0, 0, 0);
        whole.bar(0, 10, 10);
        dueSites("bars of nothing part nothing", afterRun(whole), 0);
        LegalRows between = withWidths(1, 20, 6);
        between.bar(0, 0, 7);
        between.bar(0, 13, 20);
        dueSites("just as wide as the part", afterRun(between), 7);
        between.bar(0, 7, 8);
        dueTold("one site too wide", between, 0);
        LegalRows touching = withWidths(1, 10, 1);
        touching.bar(0, 5, 10);
        touching.bar(0, 0, 5);
        dueTold("no part between bars that touch", touching, 0);
        LegalRows single = withWidths(1, 10, 1);
        single.bar(0, 6, 10);
        single.bar(0, 0, 5);
        dueSites("a part of one site", afterRun(single), 5);
        single.cell(1, 1);
        dueTold("a part of one site for two", single, 1);
    }

    private static void partsEndWithTheirRow() {
        afterRun(withWidths(2, 5, 5));
        dueTold("rows do not join", withWidths(2, 5, 6), 0);
        LegalRows ends = withWidths(2, 6, 4);
        ends.bar(0, 0, 3);
        ends.bar(1, 3, 6);
        dueTold("nor do the end and the start of two", ends, 0);
    }

    // "parts are in order by rows, in a row from the left"

    private static void partsAreInOrder() {
        // Wanted at site 10, in the middle of a bar: both sides are 4 sites off.
        LegalRows x = withCells(1, 40, 1, 10);
        x.bar(0, 30, 31);
        x.bar(0, 7, 14);
        x.bar(0, 2, 3);
        dueSites("in a row from the left", afterRun(x), 6);
        x.bar(0, 6, 7);
        dueSites("one site less on the left", afterRun(x), 14);
        LegalRows rows = withCells(3, 20, 5, 0);
        rows.want(0, 0, 1);
        rows.bar(1, 0, 20);
        dueRows("by rows", afterRun(rows), 0);
        rows.bar(0, 0, 1);
        dueRows("one site more in row 0", afterRun(rows), 2);
        // Row 1 has bars before row 0 has: the parts of row 0 still come first.
        LegalRows late = withCells(2, 60, 1, 30);
        late.want(0, 30, 1);
        late.bar(1, 0, 50);
        late.bar(0, 20, 30);
        afterRun(late);
        dueRows("row 0 for a row, row 1 for 20 sites", late, 0);
        dueSites("row 0 for a row, row 1 for 20 sites", late, 30);
    }

    private static void partsAsManyAsThereCanBe() {
        LegalRows x = withWidths(16, 3, new long[0]);
        for (int row = 15; row >= 0; row--) {
            x.bar(row, 1, 2);
        }
        for (int i = 0; i < 32; i++) {
            x.cell(1, 1);
        }
        afterRun(x);
        for (int i = 0; i < 32; i++) {
            int cell = i;
            Checks.due("two parts a row: row", cell / 2, () -> x.rowOf(cell));
            Checks.due("two parts a row: site", 2L * (cell % 2), () -> x.at(cell));
        }
        x.cell(1, 1);
        dueTold("one more than parts", x, 32);
    }

    // "of two cells side by side in a part at least so many sites are between them"

    private static void spacesAreTheLeast() {
        LegalRows x = withCells(1, 60, 5, 10, 18);
        x.space(0, 0, 2);
        dueSites("farther than the space", afterRun(x), 10, 18);
        x.space(0, 0, 3);
        dueSites("just the space", afterRun(x), 10, 18);
        x.space(0, 0, 4);
        dueSites("one site too near", afterRun(x), 9, 18);
    }

    private static void spacesOnlySideBySide() {
        LegalRows x = withCells(1, 60, 1, 10, 11, 12);
        x.kind(0, 0, 1);
        x.kind(2, 1, 0);
        x.space(1, 1, 20);
        dueSites("another cell is between", afterRun(x), 10, 11, 12);
        x.want(1, 13, 0);
        dueSites("no other cell is between", afterRun(x), 0, 22, 21);
    }

    private static void spacesOnlyInAPart() {
        LegalRows x = withCells(2, 11, 5, 0, 6);
        for (int i = 0; i < 16; i++) {
            x.space(i / 4, i % 4, 20);
        }
        x.bar(0, 5, 6);
        afterRun(x);
        dueSites("none over a bar, none to an end", x, 0, 6);
        dueRows("none over a bar, none to an end", x, 0, 0);
        LegalRows rows = withCells(2, 5, 5, 0, 0);
        rows.space(0, 0, 20);
        dueRows("none from row to row", afterRun(rows), 0, 1);
    }

    // "with the least sum of how many sites they are from where they are wanted"

    private static void laidWithTheLeastSum() {
        LegalRows x = withCells(1, 60, 5, 20, 25, 30);
        dueSites("side by side already", afterRun(x), 20, 25, 30);
        x.want(2, 29, 0);
        dueSites("one site too near: two move, or one", afterRun(x), 20, 25, 30);
        Checks.due("the least", 1L, () -> x.moved());
        x.want(0, 21, 0);
        dueSites("one on each side", afterRun(x), 20, 25, 30);
        Checks.due("one each", 2L, () -> x.moved());
        LegalRows sixty = withCells(1, 1000, 1, new long[60]);
        for (int i = 0; i < 60; i++) {
            sixty.want(i, 16 * i, 0);
        }
        Checks.due("sixty apart", 0L, () -> afterRun(sixty).moved());
        sixty.want(59, 999, 0);
        Checks.due("the last one at the end", 0L, () -> afterRun(sixty).moved());
    }

    // "of several such ways the one in which the first cell is farthest to the left, then the
    // second one, and so on"

    private static void laidFarthestToTheLeft() {
        dueSites("two of one site", afterRun(withCells(1, 60, 5, 20, 20)), 15, 20);
        dueSites("up to the part's start", afterRun(withCells(1, 60, 5, 5, 5)), 0, 5);
        dueSites("no farther than that", afterRun(withCells(1, 60, 5, 4, 4)), 0, 5);
        dueSites("at the start", afterRun(withCells(1, 60, 5, 0, 0)), 0, 5);
        dueSites("then the second one", afterRun(withCells(1, 60, 5, 0, 30, 30)), 0, 25, 30);
        LegalRows two = afterRun(withCells(1, 60, 5, 10, 10, 30, 30));
        dueSites("first and third one", two, 5, 10, 25, 30);
        LegalRows barred = withCells(1, 60, 5, 20, 20);
        barred.bar(0, 0, 17);
        dueSites("up to the bar", afterRun(barred), 17, 22);
    }

    // "do not overlap, keep spaces and are all in the part"

    private static void laidAllInThePart() {
        dueSites("the last place", afterRun(withCells(1, 60, 5, 50, 55)), 50, 55);
        dueSites("one too far", afterRun(withCells(1, 60, 5, 50, 56)), 50, 55);
        dueSites("pushed back", afterRun(withCells(1, 60, 5, 51, 56)), 50, 55);
        dueSites("the last sites", afterRun(withCells(1, 60, 5, 59, 59)), 50, 55);
        LegalRows part = withCells(1, 60, 5, 0, 59);
        part.bar(0, 0, 20);
        part.bar(0, 40, 60);
        dueSites("both ends of a part", afterRun(part), 20, 35);
    }

    // "They FIT if there is any way"

    private static void fitIfThereIsAnyWay() {
        LegalRows x = withCells(1, 29, 5, 28, 28, 28);
        x.space(0, 0, 7);
        dueSites("just full", afterRun(x), 0, 12, 24);
        x.bar(0, 28, 29);
        dueTold("one site less", x, 2);
        x.space(0, 0, 6);
        dueSites("one site of space less", afterRun(x), 1, 12, 23);
        x.bar(0, 0, 1);
        dueSites("just full again", afterRun(x), 1, 12, 23);
        x.space(0, 0, 7);
        dueTold("one site of space more", x, 2);
        LegalRows wide = withWidths(1, 80, 40, 39);
        dueSites("one site to spare", afterRun(wide), 0, 40);
        LegalRows full = withWidths(1, 80, 40, 40);
        dueSites("no site to spare", afterRun(full), 0, 40);
        dueTold("one site missing", withWidths(1, 79, 40, 40), 1);
    }

    // "cells by their wanted sites (of the same by numbers), one after another"

    private static void inOrderOfWantedSites() {
        LegalRows x = withCells(1, 60, 5, 21, 20);
        dueSites("one site apart", afterRun(x), 21, 16);
        x.want(0, 20, 0);
        dueSites("the same site", afterRun(x), 15, 20);
        x.want(0, 19, 0);
        dueSites("the other way round", afterRun(x), 15, 20);
        // The row where they are wanted has no share in the order.
        LegalRows rows = withCells(2, 60, 30, 20, 21);
        rows.want(0, 20, 1);
        rows.bar(0, 0, 60);
        dueSites("by sites, not by rows", afterRun(rows), 0, 30);
        rows.want(1, 19, 0);
        dueSites("by sites the other way round", afterRun(rows), 30, 0);
        // Row 0 is just as wide as one cell: the first in order has it.
        LegalRows first = withCells(2, 5, 5, 1, 0);
        dueRows("the second number comes first", afterRun(first), 1, 0);
        first.want(0, 0, 0);
        dueRows("the first number comes first", afterRun(first), 0, 1);
    }

    private static void ofTheSameByNumbers() {
        LegalRows x = withCells(1, 60, 1, new long[60]);
        afterRun(x);
        for (int i = 0; i < 60; i++) {
            int cell = i;
            Checks.due("in order of numbers", (long) cell, () -> x.at(cell));
        }
        x.want(0, 1, 0);
        afterRun(x);
        Checks.due("one site behind all others", 59L, () -> x.at(0));
        Checks.due("the others are before", 0L, () -> x.at(1));
    }

    // "to the part in which they fit"

    private static void onlyWhereTheyFit() {
        LegalRows x = withCells(2, 30, 10, 0, 10, 20, 29);
        afterRun(x);
        dueRows("a full row is no place", x, 0, 0, 0, 1);
        dueSites("a full row is no place", x, 0, 10, 20, 20);
        LegalRows part = withCells(1, 100, 10, 20);
        part.bar(0, 30, 31);
        part.bar(0, 20, 21);
        dueSites("nine sites are no place for ten", afterRun(part), 10);
        LegalRows only = withCells(16, 20, 10, 0);
        for (int row = 0; row < 15; row++) {
            only.bar(row, 9, 11);
        }
        dueRows("only the last row has ten", afterRun(only), 15);
        only.bar(15, 0, 10);
        dueSites("only its last ten", afterRun(only), 10);
        only.bar(15, 19, 20);
        dueTold("none has ten", only, 0);
    }

    // "and 20 for each row between that part's and the wanted one"

    private static void twentyForEachRow() {
        // The first free site of row 0 is so far off; the next row is free.
        dueRowFor("19 sites are less than a row", 1, 19, 0);
        dueRowFor("20 sites are as much as a row", 1, 20, 0);
        dueRowFor("21 sites are more than a row", 1, 21, 1);
        dueRowFor("39 sites are less than two rows", 2, 39, 0);
        dueRowFor("40 sites are as much as two rows", 2, 40, 0);
        dueRowFor("41 sites are more than two rows", 2, 41, 2);
        dueRowFor("299 sites are less than 15 rows", 15, 299, 0);
        dueRowFor("300 sites are as much as 15 rows", 15, 300, 0);
        dueRowFor("301 sites are more than 15 rows", 15, 301, 15);
        LegalRows below = withCells(2, 60, 1, 0);
        below.want(0, 0, 1);
        below.bar(1, 0, 19);
        dueRows("a row before costs the same: 19", afterRun(below), 1);
        below.bar(1, 19, 20);
        dueRows("a row before costs the same: 20", afterRun(below), 0);
    }

    private static void dueRowFor(String what, int freeRow, int sites, int due) {
        LegalRows x = withCells(16, 400, 1, 0);
        x.bar(0, 0, sites);
        for (int row = 1; row < 16; row++) {
            if (row != freeRow) {
                x.bar(row, 0, 400);
            }
        }
        dueRows(what, afterRun(x), due);
        dueSites(what, x, due == 0 ? sites : 0);
    }

    // "the sum that its cells then have, less that which they had before"

    private static void costIsWhatIsAdded() {
        // The cell that is there already has come 30 sites: that is no cost of the second one.
        LegalRows x = withCells(2, 100, 10, 0, 40);
        x.bar(0, 0, 30);
        x.bar(1, 0, 31);
        dueRows("its own way alone", afterRun(x), 0, 0);
        dueSites("its own way alone", x, 30, 40);
        // The last one has the same way of its own in both rows; in row 0 it moves the others.
        LegalRows cheap = withCells(2, 40, 10, 6, 16, 26, 36);
        dueRows("3 others by 6 are less than a row", afterRun(cheap), 0, 0, 0, 0);
        dueSites("3 others by 6 are less than a row", cheap, 0, 10, 20, 30);
        LegalRows same = withCells(2, 30, 10, 10, 20, 29);
        dueRows("2 others by 10 are as much as a row", afterRun(same), 0, 0, 0);
        dueSites("2 others by 10 are as much as a row", same, 0, 10, 20);
        LegalRows dear = withCells(2, 40, 10, 7, 17, 27, 37);
        dueRows("3 others by 7 are more than a row", afterRun(dear), 0, 0, 0, 1);
        dueSites("3 others by 7 are more than a row", dear, 7, 17, 27, 30);
    }

    // "of several the first part"

    private static void ofSeveralTheFirstPart() {
        LegalRows x = withCells(3, 10, 10, 0, 0, 0);
        for (int cell = 0; cell < 3; cell++) {
            x.want(cell, 0, 1);
        }
        dueRows("its own row, then the first of both", afterRun(x), 1, 0, 2);
        LegalRows parts = withCells(1, 11, 1, 5, 5, 5, 5);
        parts.bar(0, 5, 6);
        dueSites("left, right, and then again", afterRun(parts), 3, 6, 4, 7);
    }

    // "If there is none, nobody is at any place, and the cell is told"

    private static void nobodyIsAtAnyPlace() {
        LegalRows x = withCells(1, 10, 5, 0, 5);
        afterRun(x);
        Checks.due("a third one", 2, () -> x.cell(1, 1));
        x.want(2, 3, 0);
        dueTold("the last in order, not the new one", x, 1);
        Checks.dueThrows("nor is the one behind", BAD_STATE, () -> x.at(1));
        Checks.dueThrows("nor is the one that is new", BAD_STATE, () -> x.at(2));
        Checks.due("a net is no place", 0, () -> x.net(0, 1));
        dueNoPlaces("still told", x);
        dueTold("told again", x, 1);
        LegalRows spaced = withCells(1, 12, 5, 0, 5);
        spaced.space(0, 0, 3);
        dueTold("a space too much", spaced, 1);
        spaced.space(0, 0, 2);
        dueSites("a space that fits", afterRun(spaced), 0, 7);
    }

    // "In the end each is where it is laid"

    private static void inTheEndWhereItIsLaid() {
        LegalRows x = withCells(1, 60, 10, 20, 22, 24);
        dueSites("the third one moves the first", afterRun(x), 12, 22, 32);
        x.want(2, 32, 0);
        dueSites("now it does not", afterRun(x), 12, 22, 32);
        x.want(2, 33, 0);
        dueSites("now it is apart", afterRun(x), 12, 22, 33);
        LegalRows again = withCells(1, 60, 10, 20, 22);
        dueSites("once", afterRun(again), 12, 22);
        dueSites("twice the same", afterRun(again), 12, 22);
    }

    // "of the same width and with the same kinds, left and right"

    /** Cells 0, 1, 2 at sites 0, 50, 100; a net draws 0 to 2, so 0 would be better at 50. */
    private static LegalRows drawnTo2(long width0, long width1) {
        LegalRows x = withWidths(1, 150, width0, width1, 7);
        x.want(1, 50, 0);
        x.want(2, 100, 0);
        x.net(0, 2);
        return x;
    }

    private static void exchangesOfTheSameWidth() {
        Checks.due("40 and 40", 1, () -> afterRun(drawnTo2(40, 40)).improve(9));
        Checks.due("40 and 39", 0, () -> afterRun(drawnTo2(40, 39)).improve(9));
        Checks.due("39 and 40", 0, () -> afterRun(drawnTo2(39, 40)).improve(9));
        Checks.due("1 and 1", 1, () -> afterRun(drawnTo2(1, 1)).improve(9));
        Checks.due("1 and 2", 0, () -> afterRun(drawnTo2(1, 2)).improve(9));
    }

    private static void exchangesOfTheSameKinds() {
        dueExchangesOfKinds("the same", 1, 0, 0, 0, 0);
        dueExchangesOfKinds("the same 3 and 2", 1, 3, 2, 3, 2);
        dueExchangesOfKinds("another left one", 0, 3, 2, 2, 2);
        dueExchangesOfKinds("another right one", 0, 3, 2, 3, 3);
        dueExchangesOfKinds("the other way round", 0, 3, 2, 2, 3);
    }

    private static void dueExchangesOfKinds(String what, int due, int left0, int right0,
            int left1, int right1) {
        LegalRows x = drawnTo2(5, 5);
        x.kind(0, left0, right0);
        x.kind(1, left1, right1);
        afterRun(x);
        Checks.due("kinds: " + what, due, () -> x.improve(9));
        dueSites("kinds: " + what, x, due == 0 ? 0 : 50, due == 0 ? 50 : 0, 100);
    }

    // "of which the wire gets less when they change places"

    private static void exchangesOnlyForLessWire() {
        LegalRows same = afterRun(withCells(2, 60, 5, 0, 20));
        same.net(0, 1);
        same.net(1, 0);
        Checks.due("their own nets stay as long", 0, () -> same.improve(9));
        // Cell 2 is in the middle of 0 and 1.
        LegalRows middle = afterRun(withCells(1, 60, 5, 0, 20, 10));
        middle.kind(2, 1, 1);
        middle.net(0, 2);
        afterRun(middle);
        Checks.due("as much as before is not less", 0, () -> middle.improve(9));
        middle.want(2, 11, 0);
        afterRun(middle);
        Checks.due("one site of the middle is", 1, () -> middle.improve(9));
        Checks.due("by two sites", 18L, () -> middle.wire());
        LegalRows least = withCells(1, 9, 1, 0, 1, 5);
        least.net(0, 2);
        afterRun(least);
        Checks.due("by one site each", 1, () -> least.improve(1));
        Checks.due("by two halves", 8L, () -> least.wire());
        // What one net wins another one loses.
        LegalRows even = withCells(1, 60, 5, 0, 10, 20);
        even.kind(2, 1, 1);
        even.net(0, 2);
        even.net(1, 2);
        afterRun(even);
        Checks.due("won and lost", 0, () -> even.improve(9));
        even.net(0, 2);
        Checks.due("won more than lost", 1, () -> even.improve(9));
    }

    private static void exchangesByAllNetsOfACell() {
        dueExchangesByNets("as many to the left as to the right", 40, 0);
        dueExchangesByNets("two more to the right", 39, 1);
        dueExchangesByNets("two more to the left", 41, 0);
    }

    /** Cells 0 and 1 are alike, 2 is on their left and 3 on their right; 0 has all 80 nets. */
    private static void dueExchangesByNets(String what, int toTheLeft, int due) {
        LegalRows x = withCells(1, 60, 5, 20, 30, 0, 50);
        x.kind(2, 1, 1);
        x.kind(3, 2, 2);
        for (int i = 0; i < 80; i++) {
            x.net(0, i < toTheLeft ? 2 : 3);
        }
        afterRun(x);
        Checks.due("80 nets, " + what, due, () -> x.improve(9));
    }

    // "the pair with the least a, then the least b, does so. (One step each.)"

    private static void exchangesLeastPairFirst() {
        // Cell 3 alone is of its width; 0 and 1 are drawn to it, and each would win by 2's place.
        LegalRows x = withCells(1, 100, 5, 0, 20, 40);
        x.cell(6, 1);
        x.want(3, 80, 0);
        x.net(0, 3);
        x.net(1, 3);
        afterRun(x);
        Checks.due("wire() before", 161L + 121L, () -> x.wire());
        Checks.due("0 and 1 would win nothing, 0 and 2 do", 1, () -> x.improve(1));
        dueSites("least a first", x, 40, 20, 0, 80);
        Checks.due("nothing else wins", 0, () -> x.improve(1));
        LegalRows b = withCells(1, 100, 5, 0, 20, 40, 60);
        b.cell(6, 1);
        b.want(4, 90, 0);
        b.net(0, 4);
        b.net(2, 4);
        afterRun(b);
        Checks.due("0 and 1 win, though 0 and 3 win more", 1, () -> b.improve(1));
        dueSites("least b first", b, 20, 0, 40, 60, 90);
        Checks.due("0 and 3 now, as 0 and 2 win nothing", 1, () -> b.improve(1));
        dueSites("then the next", b, 60, 0, 40, 20, 90);
        Checks.due("and no more", 0, () -> b.improve(1));
        LegalRows last = withCells(1, 60, 1, new long[60]);
        last.kind(0, 2, 2);
        for (int cell = 1; cell < 58; cell++) {
            last.kind(cell, 1, 1);
        }
        last.net(59, 0);
        afterRun(last);
        Checks.due("the last pair", 1, () -> last.improve(9));
        Checks.due("at(58)", 59L, () -> last.at(58));
        Checks.due("at(59)", 58L, () -> last.at(59));
    }

    private static void exchangesFromRowToRow() {
        LegalRows x = withCells(16, 10, 5, 0, 5, 0);
        x.kind(2, 1, 1);
        x.want(1, 5, 15);
        x.want(2, 0, 15);
        x.net(0, 2);
        afterRun(x);
        Checks.due("15 rows apart", 600L, () -> x.wire());
        Checks.due("one exchange", 1, () -> x.improve(9));
        dueRows("rows change", x, 15, 0, 15);
        dueSites("sites change", x, 5, 0, 0);
        Checks.due("mirrored now", true, () -> x.mirrored(0));
        Checks.due("mirrored no more", false, () -> x.mirrored(1));
        Checks.due("side by side", 10L, () -> x.wire());
        Checks.due("both are moved", 2 * (5L + 300L), () -> x.moved());
        Checks.due("no overlap", false, () -> x.overlap());
    }

    // "Methods throw what their comments name, the one named first when several would do"

    private static void theExceptionNamedFirst() {
        LegalRows x = withWidths(1, 10, 1, 1);
        Checks.dueThrows("kind: no cell, no kind", NO_SUCH, () -> x.kind(2, 4, 4));
        Checks.dueThrows("kind: no cell, no left kind", NO_SUCH, () -> x.kind(-1, -1, 0));
        Checks.dueThrows("kind: a cell, no kind", BAD_VALUE, () -> x.kind(1, 4, 4));
        Checks.dueThrows("at: no cell, no places", NO_SUCH, () -> x.at(2));
        Checks.dueThrows("at: a cell, no places", BAD_STATE, () -> x.at(1));
        Checks.dueThrows("rowOf: no cell, no places", NO_SUCH, () -> x.rowOf(2));
        Checks.dueThrows("rowOf: a cell, no places", BAD_STATE, () -> x.rowOf(1));
        Checks.dueThrows("mirrored: no cell, no places", NO_SUCH, () -> x.mirrored(2));
        Checks.dueThrows("mirrored: a cell, no places", BAD_STATE, () -> x.mirrored(1));
        Checks.dueThrows("improve: no places, below 0", BAD_STATE, () -> x.improve(-1));
        Checks.dueThrows("net: no cell, the same", NO_SUCH, () -> x.net(2, 2));
        Checks.dueThrows("net: the same", BAD_VALUE, () -> x.net(1, 1));
        afterRun(x);
        Checks.dueThrows("improve: below 0", BAD_VALUE, () -> x.improve(-1));
        for (int i = 0; i < 80; i++) {
            x.net(0, 1);
        }
        Checks.dueThrows("net: no first cell, 80", NO_SUCH, () -> x.net(2, 0));
        Checks.dueThrows("net: no second cell, 80", NO_SUCH, () -> x.net(0, 2));
        Checks.dueThrows("net: no cell, 80, the same", NO_SUCH, () -> x.net(-1, -1));
        Checks.dueThrows("net: 80, the same", BAD_STATE, () -> x.net(1, 1));
        Checks.dueThrows("net: 80", BAD_STATE, () -> x.net(0, 1));
        for (int i = 2; i < 60; i++) {
            x.cell(1, 1);
        }
        Checks.dueThrows("cell: 60, no width", BAD_STATE, () -> x.cell(0, 1));
        Checks.dueThrows("cell: 60, too wide", BAD_STATE, () -> x.cell(41, 1));
        Checks.dueThrows("cell: 60, no height", BAD_STATE, () -> x.cell(1, 0));
        Checks.dueThrows("cell: 60, neither", BAD_STATE, () -> x.cell(41, 2));
        Checks.dueThrows("cell: 60", BAD_STATE, () -> x.cell(1, 1));
    }

    // "what needs places: no run() was done, or it told a cell, or something but nets was changed
    // since"

    private static void noRunWasDone() {
        LegalRows x = withWidths(1, 10, 1);
        dueNoPlaces("no run()", x);
        x.bar(0, 0, 0);
        dueNoPlaces("no run(), nothing barred", x);
        afterRun(x);
        dueSites("run() was done", x, 0);
        x.bar(0, 0, 10);
        dueTold("run() told a cell", x, 0);
    }

    /** Two cells with places, one of them away from where all starts. */
    private static LegalRows placedTwo() {
        LegalRows x = withCells(2, 30, 3, 0, 10);
        x.kind(1, 1, 2);
        x.space(1, 2, 5);
        x.bar(1, 5, 6);
        return afterRun(x);
    }

    private static void changedSince() {
        dueGoneBy("another cell", x -> x.cell(1, 1));
        dueGoneBy("the smallest step of a site", x -> x.want(1, 11, 0));
        dueGoneBy("another row", x -> x.want(1, 10, 1));
        dueGoneBy("one site barred", x -> x.bar(1, 29, 30));
        dueGoneBy("one more site barred", x -> x.bar(1, 5, 7));
        dueGoneBy("the left kind", x -> x.kind(1, 0, 2));
        dueGoneBy("the right kind", x -> x.kind(1, 1, 3));
        dueGoneBy("a space that none has", x -> x.space(3, 3, 1));
        dueGoneBy("a space one less", x -> x.space(1, 2, 4));
        dueGoneBy("there and back", x -> x.space(1, 2, 4) && x.space(1, 2, 5));
        dueGoneBy("a change, then none", x -> x.want(1, 11, 0) && x.want(1, 11, 0));
        dueGoneBy("a change, then a net", x -> x.want(1, 11, 0) ? x.net(0, 1) : null);
    }

    private static void dueGoneBy(String what, Use change) {
        LegalRows x = placedTwo();
        dueSites(what + ", before", x, 0, 10);
        change.on(x);
        dueNoPlaces(what, x);
        Checks.due(what + ", run() again", 0, () -> x.run());
        dueRows(what + ", after run() again", x, 0);
    }

    private static void notChangedSince() {
        dueKeptBy("a net", x -> x.net(0, 1));
        dueKeptBy("the same place", x -> x.want(1, 10, 0));
        dueKeptBy("no site barred", x -> x.bar(0, 7, 7));
        dueKeptBy("a barred site barred", x -> x.bar(1, 5, 6));
        dueKeptBy("the same kinds", x -> x.kind(1, 1, 2));
        dueKeptBy("the same space", x -> x.space(1, 2, 5));
        dueKeptBy("a run()", x -> x.run());
        dueKeptBy("exchanges", x -> x.improve(5));
        dueKeptBy("looks", x -> x.at(0) + x.moved() + x.wire() + (x.overlap() ? 1 : 0));
    }

    private static void dueKeptBy(String what, Use call) {
        LegalRows x = placedTwo();
        call.on(x);
        dueSites(what, x, 0, 10);
        dueRows(what, x, 0, 0);
        Checks.due(what + ": moved()", 0L, () -> x.moved());
    }

    // "A call that throws changes nothing."

    private static final Use[] REFUSED = {
        x -> x.cell(0, 1), x -> x.cell(41, 1), x -> x.cell(5, 0), x -> x.cell(5, 2),
        x -> x.want(-1, 7, 1), x -> x.want(60, 7, 1), x -> x.want(0, -1, 1),
        x -> x.want(0, 50, 1), x -> x.want(0, 7, -1), x -> x.want(0, 7, 3),
        x -> x.bar(-1, 0, 50), x -> x.bar(3, 0, 50), x -> x.bar(0, -1, 50),
        x -> x.bar(0, 51, 51), x -> x.bar(0, 40, 39), x -> x.bar(0, 0, 51),
        x -> x.kind(-1, 3, 3), x -> x.kind(60, 3, 3), x -> x.kind(0, 3, 4),
        x -> x.kind(0, 4, 3), x -> x.kind(0, 3, -1), x -> x.kind(0, -1, 3),
        x -> x.space(4, 0, 9), x -> x.space(0, 4, 9), x -> x.space(-1, 0, 9),
        x -> x.space(0, -1, 9), x -> x.space(0, 0, 21), x -> x.space(0, 0, -1),
        x -> x.at(-1), x -> x.at(60), x -> x.rowOf(-1), x -> x.rowOf(60),
        x -> x.mirrored(-1), x -> x.mirrored(60), x -> x.improve(-1),
        x -> x.net(-1, 0), x -> x.net(0, 60), x -> x.net(60, 60), x -> x.net(1, 1)
    };

    /** Three rows of 50 sites, and ten cells for which they are a little narrow. */
    private static LegalRows crowded() {
        LegalRows x = new LegalRows(3, 50);
        for (int i = 0; i < 10; i++) {
            x.cell(i % 3 == 0 ? 6 : 4, 1);
            x.want(i, (17 * i) % 50, i % 3);
            x.kind(i, i % 2, 0);
        }
        x.space(0, 1, 2);
        x.space(0, 0, 1);
        x.bar(0, 20, 23);
        x.bar(2, 5, 6);
        for (int i = 0; i < 9; i++) {
            x.net(i, (i * 7 + 3) % 10 == i ? 9 : (i * 7 + 3) % 10);
        }
        return x;
    }

    private static void thrownCallsChangeNothing() {
        for (int i = 0; i < REFUSED.length; i++) {
            String what = "refused call " + i;
            LegalRows x = crowded();
            dueSameAfter(what + " without places", x, crowded(), REFUSED[i]);
            LegalRows told = crowded();
            told.bar(1, 3, 50);
            told.bar(2, 3, 50);
            LegalRows toldToo = crowded();
            toldToo.bar(1, 3, 50);
            toldToo.bar(2, 3, 50);
            Checks.due(what + ": a cell is told", true, () -> told.run() > 0 && toldToo.run() > 0);
            dueSameAfter(what + " when a cell was told", told, toldToo, REFUSED[i]);
            LegalRows placed = afterRun(crowded());
            dueSameAfter(what + " with places", placed, afterRun(crowded()), REFUSED[i]);
        }
        dueSameAfter("at(0) without places", crowded(), crowded(), x -> x.at(0));
        dueSameAfter("rowOf(0) without places", crowded(), crowded(), x -> x.rowOf(0));
        dueSameAfter("mirrored(0) without places", crowded(), crowded(), x -> x.mirrored(0));
        dueSameAfter("moved() without places", crowded(), crowded(), x -> x.moved());
        dueSameAfter("improve(9) without places", crowded(), crowded(), x -> x.improve(9));
        dueSameAfter("wire() without places", crowded(), crowded(), x -> x.wire());
        dueSameAfter("overlap() without places", crowded(), crowded(), x -> x.overlap());
    }

    private static void thrownCallsChangeNothingWhenFull() {
        LegalRows cells = afterRun(withCells(2, 60, 1, new long[60]));
        LegalRows cellsToo = afterRun(withCells(2, 60, 1, new long[60]));
        dueSameAfter("cell 60", cells, cellsToo, x -> x.cell(1, 1));
        LegalRows nets = afterRun(crowded());
        LegalRows netsToo = afterRun(crowded());
        for (int i = 9; i < 80; i++) {
            nets.net(i % 9, 9);
            netsToo.net(i % 9, 9);
        }
        dueSameAfter("net 80", nets, netsToo, x -> x.net(0, 9));
    }

    /** Of two objects that are the same one has a refused call more: they stay the same. */
    private static void dueSameAfter(String what, LegalRows x, LegalRows same, Use refused) {
        String answer = Checks.answerOf(() -> refused.on(x));
        Checks.due(what + " throws", true, () -> answer.startsWith("throws."));
        Checks.compare(what + ", what is seen", seen(same), seen(x));
        Checks.compare(what + ", exchanges", told(same, y -> y.improve(2)),
                told(x, y -> y.improve(2)));
        Checks.compare(what + ", seen then", seen(same), seen(x));
        Use[] later = {
            y -> y.want(0, 0, 0), y -> y.kind(0, 0, 0), y -> y.space(0, 0, 1),
            y -> y.bar(0, 20, 23), y -> y.run(), y -> y.improve(9), y -> y.net(0, 1),
            y -> y.cell(3, 1), y -> y.run(), y -> y.improve(9)
        };
        for (Use use : later) {
            Checks.compare(what + ", later calls", told(same, use), told(x, use));
            Checks.compare(what + ", seen later", seen(same), seen(x));
        }
    }

    private static String told(LegalRows x, Use use) {
        return Checks.answerOf(() -> use.on(x));
    }

    private static String seen(LegalRows x) {
        StringBuilder all = new StringBuilder();
        for (int i = 0; i < 61; i++) {
            int cell = i;
            all.append(told(x, y -> y.at(cell))).append(' ');
            all.append(told(x, y -> y.rowOf(cell))).append(' ');
            all.append(told(x, y -> y.mirrored(cell))).append(' ');
        }
        all.append(told(x, y -> y.moved())).append(' ');
        all.append(told(x, y -> y.wire())).append(' ');
        return all.append(told(x, y -> y.overlap())).toString();
    }

    // "An object is used for at most 512 calls after it has been made"

    private static void fiveHundredAndTwelveCalls() {
        LegalRows x = new LegalRows(1, 1000);
        for (int i = 0; i < 498; i++) {
            int site = 2 * i + 1;
            Checks.due("every second site: " + site, true, () -> x.bar(0, site, site + 1));
        }
        Checks.due("call 499", 0, () -> x.cell(1, 1));
        Checks.due("call 500", 1, () -> x.cell(1, 1));
        Checks.due("call 501", 2, () -> x.cell(4, 1));
        Checks.due("call 502", 3, () -> x.cell(1, 1));
        Checks.due("call 503", true, () -> x.want(0, 1, 0));
        Checks.due("call 504", true, () -> x.want(1, 3, 0));
        Checks.due("call 505", true, () -> x.want(3, 500, 0));
        Checks.due("call 506", 0, () -> x.run());
        // Only the four sites behind the last bar are wide enough for cell 2.
        dueSites("calls 507 to 510", x, 0, 2, 996, 500);
        Checks.due("call 511", 996L + 1 + 1, () -> x.moved());
        Checks.due("call 512", false, () -> x.overlap());
    }
}
