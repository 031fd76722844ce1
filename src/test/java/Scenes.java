/** What the tests of single sentences share: objects made ready, and looks at where cells are. */
class Scenes {
    static final Class<IndexOutOfBoundsException> NO_SUCH = IndexOutOfBoundsException.class;
    static final Class<IllegalStateException> BAD_STATE = IllegalStateException.class;
    static final Class<IllegalArgumentException> BAD_VALUE = IllegalArgumentException.class;

    /** A call on an object that is still to be made. */
    interface Use {
        Object on(LegalRows x);
    }

    /** One cell of that width for each wanted site, in row 0. */
    static LegalRows withCells(int rows, long sites, long width, long... wanted) {
        LegalRows x = new LegalRows(rows, sites);
        for (int i = 0; i < wanted.length; i++) {
            x.cell(width, 1);
            x.want(i, wanted[i], 0);
        }
        return x;
    }

    /** One cell for each width, all of them wanted at site 0 of row 0. */
    static LegalRows withWidths(int rows, long sites, long... widths) {
        LegalRows x = new LegalRows(rows, sites);
        for (long width : widths) {
            x.cell(width, 1);
        }
        return x;
    }

    static LegalRows afterRun(LegalRows x) {
        Checks.due("run()", 0, () -> x.run());
        return x;
    }

    static void dueTold(String what, LegalRows x, int cell) {
        Checks.due(what + ": run()", 1 + cell, () -> x.run());
        dueNoPlaces(what, x);
    }

    static void dueSites(String what, LegalRows x, long... sites) {
        for (int i = 0; i < sites.length; i++) {
            int cell = i;
            Checks.due(what + ": at(" + cell + ")", sites[i], () -> x.at(cell));
        }
    }

    static void dueRows(String what, LegalRows x, int... rows) {
        for (int i = 0; i < rows.length; i++) {
            int cell = i;
            Checks.due(what + ": rowOf(" + cell + ")", rows[i], () -> x.rowOf(cell));
        }
    }

    /** All that needs places throws; the object has a cell 0. */
    static void dueNoPlaces(String what, LegalRows x) {
        Checks.dueThrows(what + ": at(0)", BAD_STATE, () -> x.at(0));
        Checks.dueThrows(what + ": rowOf(0)", BAD_STATE, () -> x.rowOf(0));
        Checks.dueThrows(what + ": mirrored(0)", BAD_STATE, () -> x.mirrored(0));
        Checks.dueThrows(what + ": moved()", BAD_STATE, () -> x.moved());
        Checks.dueThrows(what + ": improve(0)", BAD_STATE, () -> x.improve(0));
        Checks.dueThrows(what + ": improve(1)", BAD_STATE, () -> x.improve(1));
        Checks.dueThrows(what + ": wire()", BAD_STATE, () -> x.wire());
        Checks.dueThrows(what + ": overlap()", BAD_STATE, () -> x.overlap());
    }
}
