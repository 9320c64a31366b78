/** Promises 12 to 15 and 18: runs, and what they tell. */
public final class RunTest {
    public static void main(String[] args) {
        refused();
        ways();
        columns();
        greatestNeed();
        voids();
        spans();
        spansOverGlue();
        stretches();
        shrinks();
        orders();
        missing();
        rounding();
        voidGlue();
        lastRunStands();
        wideTable();
        longSpans();
        allRows();
        oneMore();
        Checks.finish();
    }

    private static void refused() {
        AlignRows x = new AlignRows();
        Checks.due("run of no table", -1, x.run(0, 9, 0));
        x.table();
        Checks.due("run without a preamble", -3, x.run(0, 9, 0));
        AlignRows y = Checks.laid("#");
        Checks.due("way -1", -2, y.run(0, -1, 0));
        Checks.due("way 3", -2, y.run(0, 3, 0));
        Checks.due("too narrow", -2, y.run(0, 1, -1000001));
        Checks.due("too wide", -2, y.run(0, 1, 1000001));
        Checks.due("too little more", -2, y.run(0, 2, -1000001));
        Checks.due("too much more", -2, y.run(0, 2, 1000001));
        y.row(0);
        Checks.due("run in a row", -3, y.run(0, 9, 0));
        Checks.due("run of table 1", -1, y.run(1, 0, 0));
        Checks.lastRun("no run", y, 0, 0, 0, 0, -1, 0);
        Checks.due("width without a run", -1, y.width(0, 0));
        Checks.due("isVoid without a run", 0, y.isVoid(0, 0) ? 1 : 0);
        Checks.refuses("place without a run", () -> y.place(0, 0));
    }

    private static void ways() {
        AlignRows x = Checks.laid("#");
        Checks.plainRow(x, 30, 1);
        Checks.due("natural, by not asked", 30, x.run(0, 0, Integer.MIN_VALUE));
        Checks.lastRun("natural", x, 1, 30, 0, 1, -1, 0);
        Checks.due("to a width", 50, x.run(0, 1, 50));
        Checks.lastRun("to a width", x, 1, 30, 20, 2, -1, 20);
        Checks.due("to its own width", 30, x.run(0, 1, 30));
        Checks.lastRun("to its own width", x, 1, 30, 0, 3, -1, 0);
        Checks.due("and so much", 37, x.run(0, 2, 7));
        Checks.lastRun("and so much", x, 1, 30, 7, 4, -1, 7);
        Checks.due("and less", -1, x.run(0, 2, -31));
        Checks.lastRun("and less", x, 1, 30, -31, 5, -1, 31);
        Checks.due("least width", -1000000, x.run(0, 1, -1000000));
        Checks.lastRun("least width", x, 1, 30, -1000030, 6, -1, 1000030);
        Checks.due("greatest width", 1000000, x.run(0, 1, 1000000));
        Checks.due("most more", 1000030, x.run(0, 2, 1000000));
        Checks.due("least more", -999970, x.run(0, 2, -1000000));
        Checks.due("runs", 9, x.count(0, 9));
        Checks.due("a refused one", -2, x.run(0, 3, 0));
        Checks.lastRun("a refused one", x, 1, 30, -1000000, 9, -1, 1000000);
    }

    private static void columns() {
        AlignRows x = Checks.laid("&#&#");
        Checks.due("without rows", 0, x.run(0, 0, 0));
        Checks.lastRun("without rows", x, 2, 0, 0, 1, -1, 0);
        Checks.widths("without rows", x, 0, 0);
        Checks.plainRow(x, 1, 1);
        Checks.plainRow(x, 1, 1, 2, 4, 3, 1);
        Checks.plainRow(x, 4, 2);
        x.run(0, 0, 0);
        Checks.lastRun("as entries go", x, 6, 7, 0, 2, -1, 0);
        Checks.widths("as entries go", x, 1, 3, 0, 0, 0, 3);
        Checks.due("width of column -1", -1, x.width(0, -1));
        Checks.due("width of table 1", -1, x.width(1, 0));
        Checks.due("isVoid(0, -1)", 0, x.isVoid(0, -1) ? 1 : 0);
        Checks.due("isVoid(0, 6)", 0, x.isVoid(0, 6) ? 1 : 0);
        Checks.due("isVoid(1, 0)", 0, x.isVoid(1, 0) ? 1 : 0);
        Checks.due("isVoid(-1, 0)", 0, x.isVoid(-1, 0) ? 1 : 0);
        Checks.refuses("place(0, -1)", () -> x.place(0, -1));
        Checks.refuses("place(1, 0)", () -> x.place(1, 0));
        Checks.refuses("place(-1, 0)", () -> x.place(-1, 0));
    }

    private static void greatestNeed() {
        AlignRows x = Checks.laid("#&#&#");
        Checks.plainRow(x, 5, 1, 90, 1);
        Checks.plainRow(x, 50, 1, 9, 1);
        Checks.plainRow(x, 49, 1);
        Checks.due("natural", 140, x.run(0, 0, 0));
        Checks.widths("greatest need", x, 50, 90, 0);
        voidsAre("greatest need", x, 0, 0, 1);
    }

    private static void voidsAre(String what, AlignRows x, int... wanted) {
        for (int c = 0; c < wanted.length; c++) {
            Checks.due(what + ": isVoid(0, " + c + ")", wanted[c], x.isVoid(0, c) ? 1 : 0);
        }
    }

    private static void voids() {
        AlignRows x = Checks.laid("#&#&#&#");
        for (int k = 0; k <= 4; k++) {
            x.glue(0, k, 10 + k, 0, 0);
        }
        Checks.plainRow(x, 0, 1, 40, 2);
        x.run(0, 0, 0);
        // an entry of width 0 is a need, so column 0 is not void, but column 1 is
        voidsAre("voids", x, 0, 1, 0, 1);
        Checks.widths("voids", x, 0, 0, 40, 0);
        Checks.places("voids", x, 10, 21, 21, 74);
        Checks.due("natural", 10 + 11 + 40 + 13, x.count(0, 7));
        AlignRows y = Checks.laid("#");
        y.glue(0, 0, 7, 0, 0);
        y.glue(0, 1, 8, 0, 0);
        Checks.due("no entries: glue 0 stays", 7, y.run(0, 0, 0));
        voidsAre("no entries", y, 1);
        Checks.places("no entries", y, 7);
    }

    private static void spans() {
        AlignRows x = Checks.laid("#&#&#");
        Checks.plainRow(x, 10, 1, 20, 1, 30, 1);
        Checks.plainRow(x, 100, 3);
        Checks.plainRow(x, 50, 2);
        x.run(0, 0, 0);
        Checks.widths("the last of its columns is wider", x, 10, 40, 50);
        AlignRows y = Checks.laid("#&#&#");
        Checks.plainRow(y, 60, 1);
        Checks.plainRow(y, 40, 2);
        Checks.plainRow(y, 10, 3);
        y.run(0, 0, 0);
        Checks.widths("what is below 0 is 0", y, 60, 0, 0);
        voidsAre("what is below 0 is 0, and no void", y, 0, 0, 0);
        AlignRows z = Checks.laid("#&#&#");
        Checks.plainRow(z, 5, 1, 60, 2);
        Checks.plainRow(z, 10, 2);
        z.run(0, 0, 0);
        Checks.widths("a span behind another", z, 5, 5, 55);
    }

    private static void spansOverGlue() {
        AlignRows x = Checks.laid("#&#&#");
        x.glue(0, 0, 1000, 0, 0);
        x.glue(0, 1, 7, 0, 0);
        x.glue(0, 2, -9, 0, 0);
        x.glue(0, 3, 2000, 0, 0);
        Checks.plainRow(x, 10, 1, 20, 1);
        Checks.plainRow(x, 100, 3);
        Checks.due("natural", 3100, x.run(0, 0, 0));
        Checks.widths("less the glues between", x, 10, 20, 72);
        Checks.places("less the glues between", x, 1000, 1017, 1028);
        AlignRows y = Checks.laid("#&#&#");
        y.glue(0, 1, -500, 0, 0);
        y.glue(0, 2, 77, 0, 0);
        Checks.plainRow(y, 0, 1);
        Checks.plainRow(y, 3, 3);
        y.run(0, 0, 0);
        // column 1 is void, so that its glue is not taken off
        Checks.widths("a negative glue asks more", y, 0, 0, 503);
        // a need that was cut to 0 is asked more by a negative glue behind it
        AlignRows z = Checks.laid("#&#&#");
        z.glue(0, 2, -50, 0, 0);
        Checks.plainRow(z, 100, 1, 5, 1);
        Checks.plainRow(z, 20, 3);
        z.run(0, 0, 0);
        Checks.widths("cut to 0 on its way", z, 100, 5, 45);
    }

    /** Three columns of 10, with glue 0 to 3 stretching and shrinking as told. */
    private static AlignRows flexible(int[] stretches, int[] stretchOrders, int[] shrinks, int[] shrinkOrders) {
        AlignRows x = Checks.laid("#&#&#");
        for (int k = 0; k < 4; k++) {
            x.glue(0, k, 0, stretches[k], stretchOrders[k]);
            x.shrink(0, k, shrinks[k], shrinkOrders[k]);
        }
        Checks.plainRow(x, 10, 1, 10, 1, 10, 1);
        return x;
    }

    private static void stretches() {
        int[] zero = {0, 0, 0, 0};
        AlignRows x = flexible(new int[] {1, 2, 3, 4}, zero, new int[] {4, 0, 0, 0}, zero);
        Checks.due("run", 130, x.run(0, 2, 100));
        Checks.lastRun("stretches", x, 3, 30, 100, 1, 0, 0);
        Checks.places("stretches", x, 10, 40, 80);
        Checks.widths("stretches leave widths", x, 10, 10, 10);
        x.run(0, 1, 30);
        Checks.lastRun("no excess, no order", x, 3, 30, 0, 2, -1, 0);
        Checks.places("no excess", x, 0, 10, 20);
    }

    private static void shrinks() {
        int[] zero = {0, 0, 0, 0};
        AlignRows x = flexible(new int[] {9, 9, 9, 9}, zero, new int[] {1, 2, 3, 4}, zero);
        Checks.due("run", 20, x.run(0, 1, 20));
        Checks.lastRun("shrinks", x, 3, 30, -10, 1, 0, 0);
        Checks.places("shrinks", x, -1, 7, 14);
        x.run(0, 2, -5);
        Checks.places("rounded towards no shrink", x, 0, 9, 17);
        x.run(0, 2, -11);
        Checks.lastRun("one too much", x, 3, 30, -11, 3, 0, 1);
        Checks.places("one too much", x, -1, 7, 14);
        x.run(0, 2, -1000);
        Checks.lastRun("far too much", x, 3, 30, -1000, 4, 0, 990);
        Checks.places("far too much", x, -1, 7, 14);
        Checks.due("it is set so all the same", -970, x.count(0, 7) + x.count(0, 8));
    }

    private static void orders() {
        int[] threes = {1, 1, 1, 3};
        AlignRows x = flexible(new int[] {5, 5, 5, 0}, new int[] {1, 0, 1, 3},
                new int[] {2, 2, 0, 2}, new int[] {2, 2, 3, 0});
        x.run(0, 2, 100);
        Checks.lastRun("order 3 sums to 0", x, 3, 30, 100, 1, 1, 0);
        Checks.places("order 1", x, 50, 60, 120);
        x.run(0, 2, -100);
        Checks.lastRun("a shrink of order 2 has no end", x, 3, 30, -100, 2, 2, 0);
        Checks.places("order 2", x, -50, -90, -80);
        AlignRows y = flexible(new int[] {10000, 0, 0, 1}, threes, new int[] {1, 0, 0, 0}, new int[] {1, 0, 0, 0});
        y.run(0, 2, 7);
        Checks.lastRun("order 3", y, 3, 30, 7, 1, 3, 0);
        Checks.places("all goes to the last glue", y, 0, 10, 20);
        y.run(0, 2, -9);
        Checks.lastRun("order 1 of the shrinks", y, 3, 30, -9, 2, 1, 0);
        Checks.places("more than its amount", y, -9, 1, 11);
    }

    private static void missing() {
        int[] zero = {0, 0, 0, 0};
        AlignRows x = flexible(zero, new int[] {3, 3, 3, 3}, zero, new int[] {3, 3, 3, 3});
        Checks.due("wider", 130, x.run(0, 2, 100));
        Checks.lastRun("nothing stretches", x, 3, 30, 100, 1, -1, 100);
        Checks.places("nothing stretches", x, 0, 10, 20);
        Checks.due("narrower", -70, x.run(0, 2, -100));
        Checks.lastRun("nothing shrinks", x, 3, 30, -100, 2, -1, 100);
        Checks.places("nothing shrinks", x, 0, 10, 20);
        AlignRows y = flexible(new int[] {1, 0, 0, 0}, zero, zero, zero);
        y.run(0, 2, 100);
        Checks.lastRun("a stretch of order 0 has no end", y, 3, 30, 100, 1, 0, 0);
        Checks.places("a stretch of order 0 has no end", y, 100, 110, 120);
    }

    private static void rounding() {
        int[] zero = {0, 0, 0, 0};
        int[] ones = {1, 1, 1, 1};
        AlignRows x = flexible(new int[] {1, 1, 1, 0}, zero, ones, ones);
        x.run(0, 2, 2);
        // 2/3, 4/3, 6/3
        Checks.places("2 over three", x, 0, 11, 22);
        x.run(0, 2, 4);
        Checks.places("4 over three", x, 1, 12, 24);
        x.run(0, 2, -3);
        // 3/4, 6/4, 9/4 less
        Checks.places("3 less over four", x, 0, 9, 18);
        AlignRows y = flexible(new int[] {10000, 10000, 10000, 9999}, zero, zero, zero);
        y.run(0, 2, 1000000);
        Checks.places("large sums", y, 250006, 500022, 750038);
    }

    private static void voidGlue() {
        AlignRows x = Checks.laid("#&#&#");
        x.glue(0, 1, 100, 50, 3);
        x.shrink(0, 1, 50, 3);
        x.glue(0, 2, 0, 1, 0);
        x.shrink(0, 2, 4, 0);
        x.row(0);
        x.entry(0, 30, 2, true);
        x.entry(0, 5, 1, true);
        x.end(0);
        Checks.due("run", 45, x.run(0, 2, 10));
        Checks.lastRun("glue behind a void column has no stretch", x, 3, 35, 10, 1, 0, 0);
        Checks.places("glue behind a void column", x, 0, 0, 40);
        x.run(0, 2, -10);
        Checks.lastRun("glue behind a void column has no shrink", x, 3, 35, -10, 2, 0, 6);
        Checks.places("glue behind a void column", x, 0, 0, 26);
    }

    private static void lastRunStands() {
        AlignRows x = Checks.laid("#&&#");
        x.glue(0, 1, 3, 1, 0);
        Checks.plainRow(x, 10, 1, 20, 1);
        x.run(0, 2, 6);
        x.glue(0, 1, 500, 0, 3);
        Checks.plainRow(x, 99, 1, 99, 1, 99, 1);
        x.row(0);
        x.run(0, 0, 0);
        Checks.lastRun("the last run stands", x, 2, 33, 6, 1, 0, 0);
        Checks.places("the last run stands", x, 0, 19);
        Checks.widths("the last run stands", x, 10, 20);
        x.end(0);
        x.run(0, 0, 0);
        Checks.lastRun("the next run", x, 3, 797, 0, 2, -1, 0);
        Checks.widths("the next run", x, 99, 99, 99);
        Checks.places("the next run", x, 0, 599, 698);
    }

    private static void wideTable() {
        AlignRows x = Checks.laid("&#");
        x.glue(0, 0, 10000, 10000, 3);
        x.glue(0, 1, 10000, 10000, 3);
        int[] entries = new int[48];
        for (int i = 0; i < 48; i += 2) {
            entries[i] = 100000;
            entries[i + 1] = 1;
        }
        Checks.plainRow(x, entries);
        Checks.due("run", 3650000, x.run(0, 2, 1000000));
        Checks.lastRun("wide", x, 24, 2650000, 1000000, 1, 3, 0);
        Checks.due("the last column", 2540000 + 960000, x.place(0, 23));
    }

    private static void longSpans() {
        AlignRows x = Checks.laid("&#");
        x.glue(0, 1, 1, 0, 0);
        Checks.plainRow(x, 500, 8, 600, 8, 700, 8);
        Checks.plainRow(x, 3, 1);
        Checks.due("run", 1803, x.run(0, 0, 0));
        long[] wanted = new long[24];
        wanted[0] = 3;
        wanted[7] = 496;
        wanted[15] = 600;
        wanted[23] = 700;
        Checks.widths("spans of 8", x, wanted);
        AlignRows y = Checks.laid("&#");
        Checks.plainRow(y, 0, 8, 0, 8, 0, 6, 50, 2);
        y.run(0, 0, 0);
        Checks.due("the last column but one", 1, y.isVoid(0, 22) ? 1 : 0);
        Checks.due("the last column", 50, y.width(0, 23));
    }

    private static void allRows() {
        AlignRows x = Checks.laid("#&#");
        for (int r = 0; r < 20; r++) {
            Checks.plainRow(x, 10 + r, 1, 50 - r, 1);
        }
        Checks.due("entries of 20 rows", 40, x.count(0, 3));
        Checks.due("a run of 20 rows", 79, x.run(0, 0, 0));
        Checks.widths("20 rows", x, 29, 50);
    }

    private static void oneMore() {
        AlignRows x = Checks.laid("#");
        x.glue(0, 0, 0, 5, 2);
        x.shrink(0, 0, 5, 1);
        Checks.plainRow(x, 10, 1);
        x.run(0, 2, 1);
        Checks.lastRun("one more", x, 1, 10, 1, 1, 2, 0);
        Checks.places("one more", x, 1);
        x.run(0, 2, -1);
        Checks.lastRun("one less", x, 1, 10, -1, 2, 1, 0);
        Checks.places("one less", x, -1);
    }
}
