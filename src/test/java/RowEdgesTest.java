/** Rows, entries and what stands between (promises 7 to 11): each sentence that names a boundary case. */
public final class RowEdgesTest {
    private static final String TWELVE = "#&".repeat(11) + "#";

    public static void main(String[] args) {
        twentyRows();
        rowRefused();
        entriesFollow();
        spansOfOneToEight();
        textOfEntries();
        plainEntries();
        openUntilEnded();
        somethingBetween();
        widthsOfEntries();
        entryOrder();
        columnsLeft();
        asWideAsAnother();
        nestPlain();
        noSuchTables();
        nestNotNow();
        nestRange();
        nestSpans();
        endCounts();
        endRefused();
        betweenCounts();
        betweenRefused();
        twentyBetween();
        Checks.finish();
    }

    private static void twentyRows() {
        Checks.sentence("A table has rows, 20 at most");
        AlignRows x = Checks.laid("#");
        for (int r = 0; r < 20; r++) {
            Checks.due("rows", r, x.count(0, 2));
            Checks.due("row()", r, x.row(0));
            Checks.due("entry", 0, x.entry(0, r, 1, true));
            Checks.due("end()", 1, x.end(0));
        }
        Checks.due("row 20", -4, x.row(0));
        Checks.due("row 20 once more", -4, x.row(0));
        Checks.due("rows", 20, x.count(0, 2));
        Checks.due("none is open", 0, x.count(0, 4));
        for (int r = 0; r < 20; r++) {
            Checks.due("row " + r + " stands", r, x.at(0, r, 0, 0));
        }
        x.table();
        x.type(1, '#', 0, 0);
        x.lay(1);
        Checks.due("another table has room", 0, x.row(1));
    }

    private static void rowRefused() {
        Checks.sentence("A row is open: its number. -1; -3 without a preamble, or one is open; -4.");
        AlignRows x = new AlignRows();
        Checks.due("no table", -1, x.row(0));
        x.table();
        Checks.due("no table 1", -1, x.row(1));
        Checks.due("no table -1", -1, x.row(-1));
        Checks.due("no preamble", -3, x.row(0));
        x.type(0, '#', 0, 0);
        Checks.due("a tape is none", -3, x.row(0));
        x.lay(0);
        for (int r = 0; r < 19; r++) {
            Checks.due("row", r, x.row(0));
            Checks.due("one is open", -3, x.row(0));
            x.end(0);
        }
        Checks.due("the last row", 19, x.row(0));
        Checks.due("-3 before -4", -3, x.row(0));
        x.end(0);
        Checks.due("-4", -4, x.row(0));
    }

    private static void entriesFollow() {
        Checks.sentence("with entries, from column 0 on, each behind the one before");
        AlignRows x = Checks.laid(TWELVE);
        for (int r = 0; r < 3; r++) {
            x.row(0);
            Checks.due("the first one", 0, x.entry(0, 1, r + 1, true));
            Checks.due("the second one", r + 1, x.entry(0, 1, 2, true));
            Checks.due("the third one", r + 3, x.entry(0, 1, 1, true));
            x.end(0);
        }
        for (int r = 0; r < 3; r++) {
            Checks.due("the first one", 0, x.at(0, r, 0, 1));
            Checks.due("the second one", r + 1, x.at(0, r, 1, 1));
            Checks.due("the third one", r + 3, x.at(0, r, 2, 1));
        }
    }

    private static void spansOfOneToEight() {
        Checks.sentence("over as many columns as its SPAN says, 1 to 8.");
        AlignRows x = Checks.laid(TWELVE);
        for (int span = 1; span <= 8; span++) {
            x.row(0);
            Checks.due("span 0", -2, x.entry(0, 1, 0, true));
            Checks.due("span 9", -2, x.entry(0, 1, 9, true));
            Checks.due("span " + span, 0, x.entry(0, 1, span, true));
            Checks.due("the next one", span, x.entry(0, 1, 1, true));
            Checks.due("its span", span, x.at(0, span - 1, 0, 2));
            x.end(0);
        }
    }

    private static void textOfEntries() {
        Checks.sentence("An entry is as wide as told, with what is before in its first column"
                + " and behind in its last one, but for PLAIN ones.");
        // columns 0 to 7 are as templates 0, 1, 2, 3, 2, 3, 2, 3
        int[] before = {1, 3, 5, 7};
        int[] behind = {2, 4, 6, 8, 6, 8, 6, 8};
        for (int skip = 0; skip < 4; skip++) {
            for (int span = 1; span < 6; span++) {
                AlignRows x = Checks.laid("a#b&c#d&&e#f&g#h");
                x.row(0);
                for (int c = 0; c < skip; c++) {
                    x.entry(0, 0, 1, true);
                }
                Checks.due("columns " + skip + " on, span " + span, skip, x.entry(0, 50, span, false));
                Checks.due("its width", 50 + before[skip] + behind[skip + span - 1], x.at(0, 0, skip, 0));
            }
        }
        AlignRows y = Checks.laid("a#b&c#d");
        y.row(0);
        y.entry(0, 0, 1, false);
        y.entry(0, 100000, 1, false);
        Checks.due("of width 0", 3, y.at(0, 0, 0, 0));
        Checks.due("of width 100000", 100007, y.at(0, 0, 1, 0));
        y.end(0);
        Checks.due("the run takes the text too", 100010, y.run(0, 0, 0));
    }

    private static void plainEntries() {
        Checks.sentence("but for PLAIN ones.");
        AlignRows x = Checks.laid("z#z&&z#z");
        x.row(0);
        x.entry(0, 0, 1, true);
        x.entry(0, 7, 1, true);
        x.entry(0, 100000, 2, true);
        Checks.due("of width 0", 0, x.at(0, 0, 0, 0));
        Checks.due("of width 7", 7, x.at(0, 0, 1, 0));
        Checks.due("of width 100000", 100000, x.at(0, 0, 2, 0));
    }

    private static void openUntilEnded() {
        Checks.sentence("A row is OPEN until it is ended");
        AlignRows x = Checks.laid("&#");
        Checks.due("none yet", 0, x.count(0, 4));
        Checks.due("no entry without one", -3, x.entry(0, 1, 1, true));
        x.row(0);
        for (int c = 0; c < 24; c++) {
            Checks.due("open", 1, x.count(0, 4));
            Checks.due("an entry more", c, x.entry(0, 1, 1, true));
        }
        Checks.due("a full row is open still", 1, x.count(0, 4));
        Checks.due("and is ended", 24, x.end(0));
        Checks.due("ended", 0, x.count(0, 4));
        Checks.due("no entry behind its end", -3, x.entry(0, 1, 1, true));
        Checks.due("entries", 24, x.count(0, 3));
    }

    private static void somethingBetween() {
        Checks.sentence("between two rows, or before the first one, or behind the last one,"
                + " something may stand that is not in columns.");
        AlignRows x = Checks.laid("#");
        Checks.due("before the first one", 1, x.between(0));
        Checks.plainRow(x, 5, 1);
        Checks.due("between two rows", 2, x.between(0));
        Checks.due("between two rows once more", 3, x.between(0));
        Checks.plainRow(x, 6, 1);
        Checks.due("behind the last one", 4, x.between(0));
        int[] items = {-1, 0, -2, -3, 1, -4};
        for (int i = 0; i < items.length; i++) {
            Checks.due("item " + i, items[i], x.item(0, i));
        }
        Checks.due("it is in no column", 6, x.run(0, 0, 0));
        AlignRows y = Checks.laid("#");
        Checks.due("without a row", 1, y.between(0));
        Checks.due("rows", 0, y.count(0, 2));
        Checks.due("a run of it", 0, y.run(0, 0, 0));
    }

    private static void widthsOfEntries() {
        Checks.sentence("then -2 w is not 0 .. 100000, or span is not 1 .. 8");
        AlignRows x = Checks.laid("&#");
        x.row(0);
        Checks.due("w -1", -2, x.entry(0, -1, 1, true));
        Checks.due("w 100001", -2, x.entry(0, 100001, 1, true));
        Checks.due("w -1, not plain", -2, x.entry(0, -1, 1, false));
        Checks.due("w 100001, not plain", -2, x.entry(0, 100001, 1, false));
        Checks.due("span 0", -2, x.entry(0, 5, 0, true));
        Checks.due("span 9", -2, x.entry(0, 5, 9, true));
        Checks.due("span -1", -2, x.entry(0, 5, -1, true));
        Checks.due("both wrong", -2, x.entry(0, -1, 9, true));
        Checks.due("no entry", 0, x.count(0, 3));
        Checks.due("w 0, span 1", 0, x.entry(0, 0, 1, true));
        Checks.due("w 100000, span 8", 1, x.entry(0, 100000, 8, true));
        Checks.due("two entries", 2, x.count(0, 3));
    }

    private static void entryOrder() {
        Checks.sentence("An entry more in the open row: its first column. -1 no such table; -3 none is open;");
        AlignRows x = new AlignRows();
        Checks.due("-1 before -2", -1, x.entry(0, -1, 0, true));
        x.table();
        Checks.due("-1", -1, x.entry(1, 1, 1, true));
        Checks.due("-1 below", -1, x.entry(-1, 1, 1, true));
        Checks.due("-3 without a preamble, before -2", -3, x.entry(0, -1, 0, true));
        x.type(0, '#', 0, 0);
        x.lay(0);
        Checks.due("-3 before -2", -3, x.entry(0, -1, 0, true));
        Checks.due("-3 before -1", -3, x.entry(0, 1, 2, true));
        x.row(0);
        x.end(0);
        Checks.due("-3 behind the end", -3, x.entry(0, 1, 1, true));
        x.row(0);
        Checks.due("-2 before -1", -2, x.entry(0, 1, 9, true));
        Checks.due("-2 of w before -1", -2, x.entry(0, 100001, 2, true));
        Checks.due("-1 in the end", -1, x.entry(0, 1, 2, true));
    }

    private static void leaves(String preamble, int columns) {
        for (int span = 1; span <= 8; span++) {
            AlignRows x = Checks.laid(preamble);
            x.row(0);
            int before = columns - span;
            for (int c = 0; c < before; c++) {
                Checks.due("column " + c, c, x.entry(0, 1, 1, true));
            }
            for (int more = span + 1; more <= 8; more++) {
                Checks.due("over the end of " + columns + " by " + (more - span), -1, x.entry(0, 1, more, true));
            }
            Checks.due("nothing was added", before, x.count(0, 3));
            Checks.due("up to the end of " + columns, before, x.entry(0, 1, span, true));
            for (int more = 1; more <= 8; more++) {
                Checks.due("behind the end of " + columns, -1, x.entry(0, 1, more, true));
            }
            Checks.due("end", before + 1, x.end(0));
        }
    }

    private static void columnsLeft() {
        Checks.sentence("-1 not all its columns are there.");
        leaves(TWELVE, 12);
        leaves("#&#&#&#&#&#&#&#", 8);
        leaves("&#", 24);
        leaves("#&#&#&#&#&#&#&#&#&#&#&&#", 24);
        AlignRows x = Checks.laid("#");
        x.row(0);
        for (int span = 2; span <= 8; span++) {
            Checks.due("one column, span " + span, -1, x.entry(0, 1, span, true));
        }
        Checks.due("one column, span 1", 0, x.entry(0, 1, 1, true));
        Checks.due("no column left", -1, x.entry(0, 1, 1, true));
    }

    private static void nested(String what, AlignRows x, long width) {
        Checks.due(what, 0, x.nest(0, 1, 1));
        Checks.due(what + ": its width", width, x.at(0, 0, 0, 0));
    }

    private static void asWideAsAnother() {
        Checks.sentence("An entry that is as wide as another table is by its last run");
        nested("natural", Checks.nestable(0, 0), 70);
        nested("wider, though that is missing", Checks.nestable(1, 99), 99);
        nested("narrower, though that is missing", Checks.nestable(2, -30), 40);
        AlignRows x = Checks.nestable(0, 0);
        x.run(1, 1, 90);
        x.row(1);
        x.entry(1, 500, 1, true);
        nested("what came behind its last run does not count", x, 90);
        x.end(1);
        x.run(1, 0, 0);
        Checks.due("a later run leaves the entry", 90, x.at(0, 0, 0, 0));
        Checks.due("the next one", 1, x.nest(0, 1, 1));
        Checks.due("is as wide as by that run", 500, x.at(0, 0, 1, 0));
    }

    private static void nestPlain() {
        Checks.sentence("and PLAIN: its first column.");
        AlignRows x = Checks.nestable(0, 0);
        Checks.due("column 0", 0, x.nest(0, 1, 1));
        Checks.due("column 1", 1, x.nest(0, 1, 1));
        Checks.due("neither before nor behind", 70, x.at(0, 0, 0, 0));
        Checks.due("neither before nor behind", 70, x.at(0, 0, 1, 0));
        Checks.due("entries", 2, x.end(0));
    }

    private static void noSuchTables() {
        Checks.sentence("-1 no such tables; -3 none is open");
        AlignRows x = Checks.nestable(0, 0);
        Checks.due("no table 2", -1, x.nest(2, 1, 1));
        Checks.due("no table -1", -1, x.nest(-1, 1, 1));
        Checks.due("no other 2", -1, x.nest(0, 2, 1));
        Checks.due("no other -1", -1, x.nest(0, -1, 1));
        Checks.due("neither", -1, x.nest(2, 2, 1));
        Checks.due("-1 before -2", -1, x.nest(0, 2, 0));
        Checks.due("-1 before -3", -1, x.nest(1, 2, 1));
        x.end(0);
        Checks.due("none is open", -3, x.nest(0, 1, 1));
        Checks.due("-3 before -2", -3, x.nest(0, 1, 0));
        Checks.due("-3 before -1", -3, x.nest(0, 1, 3));
        Checks.due("nothing was added", 0, x.count(0, 3));
        x.row(0);
        Checks.due("the right one", 0, x.nest(0, 1, 1));
    }

    private static void nestNotNow() {
        Checks.sentence("or that one is this one, was not run");
        AlignRows x = Checks.nestable(0, 0);
        x.end(0);
        x.run(0, 0, 0);
        x.row(0);
        Checks.due("this one, though it was run", -3, x.nest(0, 0, 1));
        Checks.due("this one, -3 before -2", -3, x.nest(0, 0, 9));
        x.table();
        Checks.due("not laid", -3, x.nest(0, 2, 1));
        x.type(2, '#', 0, 0);
        x.lay(2);
        Checks.due("not run", -3, x.nest(0, 2, 1));
        Checks.due("not run, -3 before -2", -3, x.nest(0, 2, 9));
        Checks.due("not run, -3 before -1", -3, x.nest(0, 2, 3));
        x.run(2, 3, 0);
        Checks.due("a refused run is none", -3, x.nest(0, 2, 1));
        Checks.due("nothing was added", 0, x.count(0, 3));
        x.run(2, 0, 0);
        Checks.due("run, with a width of 0", 0, x.nest(0, 2, 1));
        AlignRows y = Checks.nestable(0, 0);
        y.row(1);
        Checks.due("each in the other: 0 was not run", -3, y.nest(1, 0, 1));
        Checks.due("each in the other: 1 was", 0, y.nest(0, 1, 1));
    }

    private static void nestRange() {
        Checks.sentence("or is below 0 or above 100000;");
        nested("0", Checks.nestable(1, 0), 0);
        nested("1", Checks.nestable(1, 1), 1);
        nested("100000", Checks.nestable(1, 100000), 100000);
        nested("70 less 70", Checks.nestable(2, -70), 0);
        nested("70 and 99930", Checks.nestable(2, 99930), 100000);
        Checks.due("-1", -3, Checks.nestable(1, -1).nest(0, 1, 1));
        Checks.due("100001", -3, Checks.nestable(1, 100001).nest(0, 1, 1));
        Checks.due("70 less 71", -3, Checks.nestable(2, -71).nest(0, 1, 1));
        Checks.due("70 and 99931", -3, Checks.nestable(2, 99931).nest(0, 1, 1));
        Checks.due("-3 before -2", -3, Checks.nestable(1, -1).nest(0, 1, 0));
        Checks.due("-3 before -1", -3, Checks.nestable(1, 100001).nest(0, 1, 3));
    }

    private static void nestSpans() {
        Checks.sentence("then -2, -1 as above.");
        AlignRows x = Checks.nestable(0, 0);
        Checks.due("span 0", -2, x.nest(0, 1, 0));
        Checks.due("span 9, -2 before -1", -2, x.nest(0, 1, 9));
        Checks.due("span -1", -2, x.nest(0, 1, -1));
        Checks.due("over the end", -1, x.nest(0, 1, 3));
        Checks.due("far over the end", -1, x.nest(0, 1, 8));
        Checks.due("nothing was added", 0, x.count(0, 3));
        Checks.due("both columns", 0, x.nest(0, 1, 2));
        Checks.due("its span", 2, x.at(0, 0, 0, 2));
        Checks.due("none left", -1, x.nest(0, 1, 1));
        AlignRows y = Checks.laid("&#");
        y.table();
        y.type(1, '#', 0, 0);
        y.lay(1);
        y.run(1, 0, 0);
        y.row(0);
        Checks.due("span 8", 0, y.nest(0, 1, 8));
        Checks.due("span 8 behind it", 8, y.nest(0, 1, 8));
        Checks.due("span 7 behind it", 16, y.nest(0, 1, 7));
        Checks.due("over the end of 24", -1, y.nest(0, 1, 2));
        Checks.due("the last column", 23, y.nest(0, 1, 1));
    }

    private static void endCounts() {
        Checks.sentence("The row is ended: how many entries it has.");
        AlignRows x = Checks.laid("&#");
        x.row(0);
        Checks.due("none", 0, x.end(0));
        Checks.due("a row without entries is one", 1, x.count(0, 2));
        x.row(0);
        x.entry(0, 1, 8, true);
        Checks.due("one", 1, x.end(0));
        x.row(0);
        for (int c = 0; c < 24; c++) {
            x.entry(0, 1, 1, true);
        }
        x.entry(0, 1, 1, true);
        Checks.due("24", 24, x.end(0));
        Checks.due("entries of all", 25, x.count(0, 3));
    }

    private static void endRefused() {
        Checks.sentence("how many entries it has. -1; -3 none is open.");
        AlignRows x = new AlignRows();
        Checks.due("no table", -1, x.end(0));
        x.table();
        Checks.due("no preamble", -3, x.end(0));
        Checks.due("table 1", -1, x.end(1));
        Checks.due("table -1", -1, x.end(-1));
        x.type(0, '#', 0, 0);
        x.lay(0);
        Checks.due("no row", -3, x.end(0));
        x.row(0);
        Checks.due("end", 0, x.end(0));
        Checks.due("ended", -3, x.end(0));
        x.between(0);
        Checks.due("something between is no row", -3, x.end(0));
    }

    private static void betweenCounts() {
        Checks.sentence("Something between rows: how many of these.");
        AlignRows x = Checks.laid("#");
        for (int i = 1; i <= 3; i++) {
            Checks.due("between", 2 * i - 1, x.between(0));
            Checks.due("between", 2 * i, x.between(0));
            Checks.plainRow(x, 1, 1);
        }
        x.table();
        x.type(1, '#', 0, 0);
        x.lay(1);
        Checks.due("another table has its own", 1, x.between(1));
    }

    private static void betweenRefused() {
        Checks.sentence("-1; -3 without a preamble, or a row is open; -4 there are 20.");
        AlignRows x = new AlignRows();
        Checks.due("no table", -1, x.between(0));
        x.table();
        Checks.due("table 1", -1, x.between(1));
        Checks.due("table -1", -1, x.between(-1));
        Checks.due("no preamble", -3, x.between(0));
        x.type(0, '#', 0, 0);
        Checks.due("a tape is none", -3, x.between(0));
        x.lay(0);
        x.row(0);
        Checks.due("a row is open", -3, x.between(0));
        x.end(0);
        Checks.due("it is ended", 1, x.between(0));
    }

    private static void twentyBetween() {
        Checks.sentence("-4 there are 20.");
        AlignRows x = Checks.laid("#");
        for (int i = 1; i <= 20; i++) {
            Checks.due("between", i, x.between(0));
        }
        Checks.due("the 21st", -4, x.between(0));
        x.row(0);
        Checks.due("-3 before -4", -3, x.between(0));
        x.end(0);
        Checks.due("the 21st", -4, x.between(0));
        for (int i = 0; i < 20; i++) {
            Checks.due("item " + i, -1 - i, x.item(0, i));
        }
        Checks.due("item 20", 0, x.item(0, 20));
        Checks.refuses("item 21", () -> x.item(0, 21));
        for (int r = 1; r < 20; r++) {
            x.row(0);
            x.end(0);
        }
        Checks.due("20 rows besides", 19, x.item(0, 39));
        Checks.refuses("item 40", () -> x.item(0, 40));
    }
}
