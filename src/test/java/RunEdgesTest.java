/** Widths and runs (promises 12 to 15, and "3 WIDTHS"): each sentence that names a boundary case. */
public final class RunEdgesTest {
    public static void main(String[] args) {
        asFarAsThereAreTemplates();
        asEntriesGo();
        needsOfEntries();
        greatestNeed();
        voidColumns();
        longerNeeds();
        needsBelowZero();
        naturalWidth();
        threeWays();
        widerThanNatural();
        boxes();
        runOrder();
        runRange();
        byIsNotAsked();
        belowZero();
        widthsOfNone();
        voidOfNone();
        placesOfNone();
        leftEnd();
        Checks.finish();
    }

    private static void voidsAre(String what, AlignRows x, int... wanted) {
        for (int c = 0; c < wanted.length; c++) {
            Checks.due(what + ": isVoid(0, " + c + ")", wanted[c], x.isVoid(0, c) ? 1 : 0);
        }
    }

    private static void asFarAsThereAreTemplates() {
        Checks.sentence("A run goes from column 0 on, as far as there are templates");
        for (int n = 1; n <= 12; n++) {
            AlignRows x = Checks.laid("#&".repeat(n - 1) + "#");
            Checks.due("no columns before a run", 0, x.count(0, 6));
            Checks.due("without rows", 0, x.run(0, 0, 0));
            Checks.due("columns", n, x.count(0, 6));
            Checks.widths("without rows", x, new long[n]);
            Checks.places("without rows", x, new long[n]);
            Checks.plainRow(x);
            Checks.plainRow(x, 5, 1);
            x.run(0, 0, 0);
            Checks.due("columns with a short row", n, x.count(0, 6));
        }
    }

    private static void asEntriesGo() {
        Checks.sentence("and as entries go.");
        AlignRows x = Checks.laid("&#&#&#");
        Checks.plainRow(x, 1, 3);
        x.run(0, 0, 0);
        Checks.due("as many as templates", 3, x.count(0, 6));
        Checks.plainRow(x, 1, 4);
        x.run(0, 0, 0);
        Checks.due("one more", 4, x.count(0, 6));
        Checks.plainRow(x, 1, 1, 1, 1);
        x.run(0, 0, 0);
        Checks.due("a shorter row behind it", 4, x.count(0, 6));
        Checks.plainRow(x, 0, 8, 0, 8, 0, 7);
        x.run(0, 0, 0);
        Checks.due("one less than all", 23, x.count(0, 6));
        Checks.plainRow(x, 0, 8, 0, 8, 0, 8);
        x.run(0, 0, 0);
        Checks.due("all", 24, x.count(0, 6));
    }

    private static void needsOfEntries() {
        Checks.sentence("The NEED of an entry is its width, over its columns.");
        AlignRows x = Checks.laid("a#b&c#d");
        x.row(0);
        x.entry(0, 0, 1, false);
        x.entry(0, 0, 1, true);
        x.end(0);
        x.run(0, 0, 0);
        Checks.widths("with its text, but for a plain one", x, 3, 0);
        x.row(0);
        x.entry(0, 100000, 2, false);
        x.end(0);
        x.run(0, 0, 0);
        Checks.widths("a and d", x, 3, 100002);
    }

    private static void greatestNeed() {
        Checks.sentence("Column by column: a column's WIDTH is the greatest need over it alone;");
        AlignRows x = Checks.laid("#&#");
        Checks.plainRow(x, 5, 1, 100000, 1);
        Checks.plainRow(x, 7, 1, 0, 1);
        Checks.plainRow(x, 6, 1);
        x.run(0, 0, 0);
        Checks.widths("the greatest", x, 7, 100000);
        AlignRows y = Checks.laid("#");
        for (int r = 0; r < 20; r++) {
            Checks.plainRow(y, r, 1);
        }
        Checks.due("of the twentieth row", 19, y.run(0, 0, 0));
        AlignRows z = Checks.laid("#");
        for (int r = 0; r < 20; r++) {
            Checks.plainRow(z, 19 - r, 1);
        }
        Checks.due("of the first row", 19, z.run(0, 0, 0));
    }

    private static void voidColumns() {
        Checks.sentence("it is VOID, if there is none: its width and the glue behind it"
                + " (width, stretch and shrink) are 0.");
        AlignRows x = Checks.laid("#&#&#");
        x.glue(0, 0, 1, 0, 0);
        for (int k = 1; k < 4; k++) {
            x.glue(0, k, 10, 1, 0);
            x.shrink(0, k, 1, 0);
        }
        Checks.due("no entries: glue 0 alone", 1, x.run(0, 0, 0));
        voidsAre("no entries", x, 1, 1, 1);
        Checks.places("no entries", x, 1, 1, 1);
        x.run(0, 2, 5);
        Checks.lastRun("no stretch", x, 3, 1, 5, 2, -1, 5);
        x.run(0, 2, -5);
        Checks.lastRun("no shrink", x, 3, 1, -5, 3, -1, 5);
        Checks.plainRow(x, 0, 1);
        Checks.due("a need of 0 is one", 11, x.run(0, 0, 0));
        voidsAre("a need of 0 is one", x, 0, 1, 1);
        Checks.places("a need of 0 is one", x, 1, 11, 11);
        x.run(0, 2, 5);
        Checks.lastRun("its stretch counts", x, 3, 11, 5, 5, 0, 0);
        Checks.plainRow(x, 0, 3);
        x.run(0, 0, 0);
        voidsAre("a need over more columns is one over the last", x, 0, 1, 0);
        Checks.places("a need over more columns", x, 1, 11, 11);
    }

    private static void longerNeeds() {
        Checks.sentence("Then each need over it and more columns becomes one over these others alone,"
                + " of what it is less the column's width and the width of the glue behind it");
        for (int span = 2; span <= 8; span++) {
            AlignRows x = Checks.laid("&#");
            x.glue(0, 0, 5000, 0, 0);
            x.glue(0, 1, 10, 0, 0);
            int[] ones = new int[2 * span - 2];
            for (int c = 0; c < span - 1; c++) {
                ones[2 * c] = c + 1;
                ones[2 * c + 1] = 1;
            }
            Checks.plainRow(x, ones);
            Checks.plainRow(x, 1000, span);
            x.run(0, 0, 0);
            int others = span * (span - 1) / 2 + 10 * (span - 1);
            Checks.due("the last of " + span, 1000 - others, x.width(0, span - 1));
            Checks.due("the one before", span - 1, x.width(0, span - 2));
        }
        AlignRows y = Checks.laid("#&#&#&#");
        y.glue(0, 1, 10, 0, 0);
        y.glue(0, 2, 10, 0, 0);
        y.glue(0, 3, 10, 0, 0);
        Checks.plainRow(y, 100, 3);
        Checks.plainRow(y, 50, 2, 200, 2);
        y.run(0, 0, 0);
        Checks.widths("void columns take nothing off", y, 0, 50, 40, 150);
        AlignRows z = Checks.laid("&#");
        Checks.plainRow(z, 1, 8, 2, 8, 3, 8);
        z.run(0, 0, 0);
        Checks.due("to the last column", 3, z.width(0, 23));
        Checks.due("to the last of the first eight", 1, z.width(0, 7));
    }

    private static void needsBelowZero() {
        Checks.sentence("if that is below 0, 0.");
        for (int need = 28; need <= 32; need++) {
            AlignRows x = Checks.laid("#&#&#");
            x.glue(0, 1, 10, 0, 0);
            Checks.plainRow(x, 20, 1);
            Checks.plainRow(x, need, 2);
            x.run(0, 0, 0);
            Checks.widths("need " + need + " less 30", x, 20, Math.max(0, need - 30), 0);
            voidsAre("need " + need + " less 30", x, 0, 0, 1);
        }
        AlignRows y = Checks.laid("#&#&#");
        y.glue(0, 1, 10, 0, 0);
        y.glue(0, 2, -25, 0, 0);
        Checks.plainRow(y, 100, 1, 7, 1);
        Checks.plainRow(y, 20, 3);
        y.run(0, 0, 0);
        Checks.widths("0, less 7, more 25", y, 100, 7, 18);
        AlignRows z = Checks.laid("#&#");
        z.glue(0, 1, -10000, 0, 0);
        Checks.plainRow(z, 0, 1);
        Checks.plainRow(z, 100000, 2);
        z.run(0, 0, 0);
        Checks.widths("a glue below 0 asks for more", z, 0, 110000);
    }

    private static void naturalWidth() {
        Checks.sentence("THE NATURAL WIDTH of the table: all widths, and the widths of its glues"
                + " (0, and one behind each column).");
        AlignRows x = Checks.laid("#&#");
        x.glue(0, 0, 1, 0, 0);
        x.glue(0, 1, 20, 0, 0);
        x.glue(0, 2, 300, 0, 0);
        Checks.plainRow(x, 4000, 1, 50000, 1);
        Checks.due("all", 54321, x.run(0, 0, 0));
        Checks.due("count 7", 54321, x.count(0, 7));
        AlignRows y = Checks.laid("&#");
        y.glue(0, 0, -10000, 0, 0);
        y.glue(0, 1, -10000, 0, 0);
        y.row(0);
        for (int c = 0; c < 24; c++) {
            y.entry(0, 0, 1, true);
        }
        y.end(0);
        Checks.due("the least", -250000, y.run(0, 0, 0));
        Checks.due("count 7", -250000, y.count(0, 7));
        Checks.due("no excess below 0", 0, y.count(0, 8));
    }

    private static void threeWays() {
        Checks.sentence("It is set to this, to a width, or to this and so much (which may be below 0).");
        AlignRows x = Checks.laid("#");
        Checks.plainRow(x, 30, 1);
        Checks.due("to this", 30, x.run(0, 0, 7));
        Checks.due("to a width", 7, x.run(0, 1, 7));
        Checks.due("to this and so much", 37, x.run(0, 2, 7));
        Checks.due("to this and nothing", 30, x.run(0, 2, 0));
        Checks.due("to this and -1", 29, x.run(0, 2, -1));
        Checks.due("to this and -31", -1, x.run(0, 2, -31));
        Checks.due("to a width of 0", 0, x.run(0, 1, 0));
    }

    private static void widerThanNatural() {
        Checks.sentence("THE EXCESS is how much it is set wider than natural");
        AlignRows x = Checks.laid("#");
        Checks.plainRow(x, 30, 1);
        int[] widths = {29, 30, 31, 0, -1, 1000000, -1000000};
        for (int width : widths) {
            x.run(0, 1, width);
            Checks.due("to " + width, width - 30, x.count(0, 8));
        }
        int[] mores = {0, 1, -1, 1000000, -1000000};
        for (int more : mores) {
            x.run(0, 2, more);
            Checks.due("and " + more, more, x.count(0, 8));
        }
        x.run(0, 0, 9);
        Checks.due("natural", 0, x.count(0, 8));
    }

    private static void boxes() {
        Checks.sentence("An entry's box begins where its first column does and ends where its last one does.");
        AlignRows x = Checks.laid("#&#&#");
        x.glue(0, 0, 5, 1, 0);
        x.glue(0, 1, 10, 2, 0);
        x.glue(0, 2, 20, 3, 0);
        x.glue(0, 3, 40, 4, 0);
        Checks.plainRow(x, 100, 1, 200, 1, 300, 1);
        Checks.plainRow(x, 1, 3);
        Checks.plainRow(x, 1, 1, 1, 2);
        x.run(0, 2, 10);
        long[][] wanted = {{0, 0, 6, 100}, {0, 1, 118, 200}, {0, 2, 341, 300}, {1, 0, 6, 635}, {2, 0, 6, 100},
            {2, 1, 118, 523}};
        for (long[] box : wanted) {
            int row = (int) box[0];
            int i = (int) box[1];
            Checks.due("place of " + row + ", " + i, box[2], x.at(0, row, i, 3));
            Checks.due("width of " + row + ", " + i, box[3], x.at(0, row, i, 4));
        }
        AlignRows y = Checks.laid("#&#");
        y.shrink(0, 1, 1, 1);
        Checks.plainRow(y, 100, 1, 200, 1);
        Checks.plainRow(y, 1, 2);
        y.run(0, 2, -500);
        Checks.due("a box may end before it begins", -200, y.at(0, 1, 0, 4));
    }

    private static void runOrder() {
        Checks.sentence("the width that it is set to. -1; -3 without a preamble, or a row is open;");
        AlignRows x = new AlignRows();
        Checks.due("no table", -1, x.run(0, 3, 0));
        x.table();
        Checks.due("table 1", -1, x.run(1, 3, 0));
        Checks.due("table -1", -1, x.run(-1, 0, 0));
        Checks.due("-3 without a preamble, before -2", -3, x.run(0, 3, 0));
        x.type(0, '#', 0, 0);
        Checks.due("a tape is none", -3, x.run(0, 0, 0));
        x.lay(0);
        x.row(0);
        Checks.due("-3 in a row, before -2", -3, x.run(0, 3, 0));
        Checks.due("-3 in a row", -3, x.run(0, 0, 0));
        Checks.due("no run yet", 0, x.count(0, 9));
        x.end(0);
        Checks.due("-2", -2, x.run(0, 3, 0));
        Checks.due("run", 0, x.run(0, 0, 0));
        Checks.due("one run", 1, x.count(0, 9));
    }

    private static void runRange() {
        Checks.sentence("A run: way = 0 natural, 1 to a width (-1000000 .. 1000000), 2 natural and so much (likewise)");
        AlignRows x = Checks.laid("#");
        Checks.due("way -1", -2, x.run(0, -1, 0));
        Checks.due("way 3", -2, x.run(0, 3, 0));
        for (int way = 1; way <= 2; way++) {
            Checks.due("least", -1000000, x.run(0, way, -1000000));
            Checks.due("greatest", 1000000, x.run(0, way, 1000000));
            Checks.due("below", -2, x.run(0, way, -1000001));
            Checks.due("above", -2, x.run(0, way, 1000001));
        }
        Checks.due("four runs", 4, x.count(0, 9));
        Checks.due("the last of them stands", 1000000, x.count(0, 8));
    }

    private static void byIsNotAsked() {
        Checks.sentence("then -2 no such way, or width (not asked for way 0).");
        AlignRows x = Checks.laid("#");
        Checks.plainRow(x, 9, 1);
        int[] numbers = {0, 1000000, 1000001, -1000001, Integer.MAX_VALUE, Integer.MIN_VALUE};
        for (int by : numbers) {
            Checks.due("natural, by " + by, 9, x.run(0, 0, by));
            Checks.due("no excess", 0, x.count(0, 8));
        }
        Checks.due("runs", numbers.length, x.count(0, 9));
        Checks.due("no such way, though the width is right", -2, x.run(0, 3, 9));
    }

    private static void belowZero() {
        Checks.sentence("(It may be below 0: count() 9 tells whether it was done.)");
        AlignRows x = Checks.laid("#");
        for (int width = -1; width >= -4; width--) {
            Checks.due("to a width like a refusal", width, x.run(0, 1, width));
            Checks.due("it was done", -width, x.count(0, 9));
        }
        Checks.due("refused", -2, x.run(0, 3, -2));
        Checks.due("it was not done", 4, x.count(0, 9));
        Checks.due("the last one stands", -4, x.count(0, 7) + x.count(0, 8));
    }

    /** Table 0 has 2 columns by its last run, table 1 has a preamble, table 2 nothing. */
    private static AlignRows runOnce() {
        AlignRows x = Checks.laid("#&&#");
        x.glue(0, 0, 3, 0, 0);
        Checks.plainRow(x, 10, 1);
        x.table();
        x.type(1, '#', 0, 0);
        x.lay(1);
        x.table();
        x.run(0, 0, 0);
        Checks.plainRow(x, 10, 1, 10, 1, 10, 1);
        return x;
    }

    private static void widthsOfNone() {
        Checks.sentence("The WIDTH of a column by the last run; -1 no such table or column (or none was run).");
        AlignRows x = runOnce();
        Checks.due("column 0", 10, x.width(0, 0));
        Checks.due("column 1, void", 0, x.width(0, 1));
        Checks.due("column 2, which came later", -1, x.width(0, 2));
        Checks.due("column -1", -1, x.width(0, -1));
        Checks.due("column 24", -1, x.width(0, 24));
        Checks.due("none was run", -1, x.width(1, 0));
        Checks.due("no preamble", -1, x.width(2, 0));
        Checks.due("table 3", -1, x.width(3, 0));
        Checks.due("table -1", -1, x.width(-1, 0));
        x.run(0, 0, 0);
        Checks.due("column 2, by the next run", 10, x.width(0, 2));
    }

    private static void voidOfNone() {
        Checks.sentence("Whether a column is VOID; false for what is none.");
        AlignRows x = runOnce();
        voidsAre("columns", x, 0, 1, 0);
        Checks.due("column -1", 0, x.isVoid(0, -1) ? 1 : 0);
        Checks.due("column 24", 0, x.isVoid(0, 24) ? 1 : 0);
        Checks.due("none was run", 0, x.isVoid(1, 0) ? 1 : 0);
        Checks.due("no preamble", 0, x.isVoid(2, 0) ? 1 : 0);
        Checks.due("table 3", 0, x.isVoid(3, 0) ? 1 : 0);
        Checks.due("table -1", 0, x.isVoid(-1, 0) ? 1 : 0);
        x.run(1, 0, 0);
        Checks.due("it was run, without an entry", 1, x.isVoid(1, 0) ? 1 : 0);
        x.run(0, 0, 0);
        voidsAre("by the next run", x, 0, 0, 0);
    }

    private static void placesOfNone() {
        Checks.sentence("(0 is the table's left end). ArrayIndexOutOfBounds: there is none.");
        AlignRows x = runOnce();
        Checks.places("of table 0", x, 3, 13);
        Checks.refuses("column 2, which came later", () -> x.place(0, 2));
        Checks.refuses("column -1", () -> x.place(0, -1));
        Checks.refuses("column 24", () -> x.place(0, 24));
        Checks.refuses("none was run", () -> x.place(1, 0));
        Checks.refuses("no preamble", () -> x.place(2, 0));
        Checks.refuses("table 3", () -> x.place(3, 0));
        Checks.refuses("table -1", () -> x.place(-1, 0));
    }

    private static void leftEnd() {
        Checks.sentence("Where a column begins by the last run (0 is the table's left end).");
        AlignRows x = Checks.laid("#&#");
        Checks.plainRow(x, 10, 1, 10, 1);
        x.run(0, 0, 0);
        Checks.places("without glue", x, 0, 10);
        x.glue(0, 0, -7, 2, 0);
        Checks.places("by the last run", x, 0, 10);
        x.run(0, 0, 0);
        Checks.places("left of the left end", x, -7, 3);
        x.run(0, 2, 9);
        Checks.places("glue 0 stretches too", x, 2, 12);
    }
}
