/** Objects as full as can be, used beyond 512 calls too: nothing is thrown by the machine. */
public final class LimitsTest {
    private static final long[] NUMBERS = {
        Long.MIN_VALUE, Integer.MIN_VALUE, -1, 0, 1, 2, 3, 4, 15, 16, 20, 21, 39, 40, 41, 59, 60,
        499, 998, 999, 1000, 1001, Integer.MAX_VALUE, 1L << 32, Long.MAX_VALUE
    };

    public static void main(String[] args) {
        partsOfAllCalls();
        everySecondSite();
        cellsWithoutSpareRoom();
        cellsPushedTogether();
        oneCellWithAllNets();
        anyNumbers(new LegalRows(16, 1000));
        anyNumbers(new LegalRows(1, 1));
        Checks.end("LimitsTest");
    }

    private static LegalRows full(long width) {
        LegalRows x = new LegalRows(16, 1000);
        for (int i = 0; i < 60; i++) {
            x.cell(width, 1);
        }
        return x;
    }

    /** The last of the bars would cut off row 15 if there were not room for all parts. */
    private static void partsOfAllCalls() {
        LegalRows x = new LegalRows(16, 1000);
        x.cell(2, 1);
        x.want(0, 500, 15);
        for (int i = 0; i < 507; i++) {
            int row = i / 32;
            int site = 2 * (i % 32) + 1;
            Checks.due("bar " + i, true, () -> x.bar(row, site, site + 1));
        }
        Checks.due("run() in 523 parts", 0, () -> x.run());
        Checks.due("at(0) in 523 parts", 500L, () -> x.at(0));
        Checks.due("rowOf(0) in 523 parts", 15, () -> x.rowOf(0));
    }

    /** Far more than 512 calls: what they answer is free, but not that the machine throws. */
    private static void everySecondSite() {
        LegalRows x = full(1);
        for (int row = 0; row < 16; row++) {
            for (int site = 1; site < 1000; site += 2) {
                int barredRow = row;
                int barred = site;
                ownThrow("bar", () -> x.bar(barredRow, barred, barred + 1));
            }
        }
        ownThrow("run() in many parts", () -> x.run());
        ownThrow("overlap() in many parts", () -> x.overlap());
        for (int row = 0; row < 16; row++) {
            int barred = row;
            ownThrow("all at once", () -> x.bar(barred, 0, 1000));
        }
        ownThrow("run() without parts", () -> x.run());
    }

    private static void cellsWithoutSpareRoom() {
        LegalRows x = new LegalRows(1, 60);
        for (int i = 0; i < 60; i++) {
            x.cell(1, 1);
            x.want(i, 59 - i, 0);
        }
        Checks.due("run() of 60 in 60 sites", 0, () -> x.run());
        Checks.due("moved() of 60 in 60 sites", 0L, () -> x.moved());
        x.want(0, 58, 0);
        Checks.due("run() again", 0, () -> x.run());
        Checks.due("at(0)", 58L, () -> x.at(0));
        Checks.due("at(1)", 59L, () -> x.at(1));
        x.bar(0, 0, 1);
        Checks.due("run() of 60 in 59 sites", 2, () -> x.run());
    }

    private static void cellsPushedTogether() {
        LegalRows x = new LegalRows(1, 1000);
        for (int i = 0; i < 60; i++) {
            x.cell(15, 1);
            x.want(i, i % 2 == 0 ? 999 : 998, 0);
        }
        Checks.due("run() of 60 at the right end", 0, () -> x.run());
        Checks.due("at(1), the first", 100L, () -> x.at(1));
        Checks.due("at(58), the last", 985L, () -> x.at(58));
    }

    private static void oneCellWithAllNets() {
        LegalRows x = full(10);
        for (int i = 0; i < 60; i++) {
            x.want(i, (i * 37) % 1000, (i * 7) % 16);
        }
        for (int i = 0; i < 80; i++) {
            x.net(i % 2 == 0 ? 0 : 1 + i % 59, i % 2 == 0 ? 1 + i % 59 : 0);
        }
        Checks.due("run()", 0, () -> x.run());
        long before = x.wire();
        int steps = x.improve(Integer.MAX_VALUE);
        Checks.due("some exchanges", true, () -> steps > 0);
        Checks.due("less wire", true, () -> x.wire() <= before - steps);
        Checks.due("no more exchanges", 0, () -> x.improve(Integer.MAX_VALUE));
        Checks.due("no overlap", false, () -> x.overlap());
    }

    /** Every call with every mixture of numbers; what is thrown must be one of the three. */
    private static void anyNumbers(LegalRows x) {
        for (int round = 0; round < 2; round++) {
            for (long a : NUMBERS) {
                ownThrow("at", () -> x.at((int) a));
                ownThrow("rowOf", () -> x.rowOf((int) a));
                ownThrow("mirrored", () -> x.mirrored((int) a));
                ownThrow("improve", () -> x.improve((int) a));
                for (long b : NUMBERS) {
                    ownThrow("cell", () -> x.cell(a, (int) b));
                    ownThrow("net", () -> x.net((int) a, (int) b));
                    for (long c : NUMBERS) {
                        ownThrow("want", () -> x.want((int) a, b, (int) c));
                        ownThrow("kind", () -> x.kind((int) a, (int) b, (int) c));
                        ownThrow("space", () -> x.space((int) a, (int) b, c));
                    }
                }
                ownThrow("run", () -> x.run());
                ownThrow("moved", () -> x.moved());
                ownThrow("wire", () -> x.wire());
                ownThrow("overlap", () -> x.overlap());
            }
            for (long a : NUMBERS) {
                for (long b : NUMBERS) {
                    for (long c : NUMBERS) {
                        ownThrow("bar", () -> x.bar((int) a, b, c));
                    }
                }
            }
        }
    }

    private static void ownThrow(String call, Checks.Call made) {
        String answer = Checks.answerOf(made);
        boolean own = !answer.startsWith("throws.")
                || answer.equals("throws.IndexOutOfBoundsException")
                || answer.equals("throws.IllegalStateException")
                || answer.equals("throws.IllegalArgumentException");
        Checks.compare(call, own ? answer : "one of its own", answer);
    }
}
