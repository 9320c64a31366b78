/** Promises 7 to 11, 16 and 17: rows, entries, tables in tables, what stands between, and at, item. */
public final class RowTest {
    public static void main(String[] args) {
        rows();
        entries();
        entriesRefused();
        columnsOfARow();
        templates();
        ends();
        betweens();
        items();
        nesting();
        nestingRefused();
        boxes();
        atRefused();
        counts();
        Checks.finish();
    }

    private static void rows() {
        AlignRows x = new AlignRows();
        Checks.due("row of no table", -1, x.row(0));
        x.table();
        Checks.due("row without a preamble", -3, x.row(0));
        Checks.typeText(x, 0, "#");
        Checks.due("row with a tape alone", -3, x.row(0));
        x.lay(0);
        for (int r = 0; r < 20; r++) {
            Checks.due("row", r, x.row(0));
            Checks.due("row while one is open", -3, x.row(0));
            Checks.due("count 2 with an open one", r + 1, x.count(0, 2));
            Checks.due("count 4", 1, x.count(0, 4));
            Checks.due("end", 0, x.end(0));
            Checks.due("count 4 after end", 0, x.count(0, 4));
        }
        Checks.due("row 20", -4, x.row(0));
        Checks.due("no row is open", -3, x.end(0));
        Checks.due("rows", 20, x.count(0, 2));
        AlignRows y = Checks.laid("#");
        for (int r = 0; r < 19; r++) {
            y.row(0);
            y.end(0);
        }
        y.row(0);
        Checks.due("-3 before -4", -3, y.row(0));
        Checks.due("row of table 1", -1, y.row(1));
    }

    private static void entries() {
        AlignRows x = Checks.laid("#&#&#&#&#&#&#&#&#&#&#&#");
        x.row(0);
        Checks.due("span 1", 0, x.entry(0, 0, 1, true));
        Checks.due("span 8", 1, x.entry(0, 100000, 8, true));
        Checks.due("span 3", 9, x.entry(0, 7, 3, false));
        Checks.due("count 3", 3, x.count(0, 3));
        int[][] wanted = {{0, 0, 1}, {100000, 1, 8}, {7, 9, 3}};
        for (int i = 0; i < 3; i++) {
            for (int what = 0; what < 3; what++) {
                Checks.due("at " + i + ", " + what, wanted[i][what], x.at(0, 0, i, what));
            }
        }
        Checks.due("end", 3, x.end(0));
        x.row(0);
        Checks.due("the next row is from column 0 on", 0, x.entry(0, 1, 2, true));
        Checks.due("count 3 of both", 4, x.count(0, 3));
    }

    private static void entriesRefused() {
        AlignRows x = new AlignRows();
        Checks.due("no table", -1, x.entry(0, -1, 0, true));
        x.table();
        Checks.due("no preamble", -3, x.entry(0, -1, 0, true));
        AlignRows y = Checks.laid("#&#");
        Checks.due("no row", -3, y.entry(0, -1, 0, true));
        y.row(0);
        Checks.due("w below", -2, y.entry(0, -1, 1, true));
        Checks.due("w above", -2, y.entry(0, 100001, 1, true));
        Checks.due("span below", -2, y.entry(0, 0, 0, true));
        Checks.due("span negative", -2, y.entry(0, 0, -1, true));
        Checks.due("span above", -2, y.entry(0, 0, 9, true));
        Checks.due("span greatest", -2, y.entry(0, 0, Integer.MAX_VALUE, true));
        Checks.due("-2 before -1", -2, y.entry(0, -1, 3, true));
        Checks.due("too many columns", -1, y.entry(0, 0, 3, true));
        Checks.due("table 1", -1, y.entry(1, 0, 1, true));
        Checks.due("nothing was added", 0, y.count(0, 3));
        Checks.due("both columns", 0, y.entry(0, 0, 2, true));
        Checks.due("no column left", -1, y.entry(0, 0, 1, true));
        Checks.due("-2 before -1 still", -2, y.entry(0, 0, 9, true));
        Checks.due("end", 1, y.end(0));
        Checks.due("ended", -3, y.entry(0, 0, 1, true));
    }

    private static void columnsOfARow() {
        AlignRows x = Checks.laid("&#");
        x.row(0);
        Checks.due("0", 0, x.entry(0, 1, 8, true));
        Checks.due("8", 8, x.entry(0, 1, 8, true));
        Checks.due("16", 16, x.entry(0, 1, 7, true));
        Checks.due("over the end", -1, x.entry(0, 1, 2, true));
        Checks.due("23", 23, x.entry(0, 1, 1, true));
        Checks.due("24", -1, x.entry(0, 1, 1, true));
        Checks.due("end", 4, x.end(0));
        x.run(0, 0, 0);
        Checks.due("columns", 24, x.count(0, 6));
    }

    private static void templates() {
        AlignRows x = Checks.laid("a#b&c#d&e#zz");
        x.row(0);
        x.entry(0, 100, 1, false);
        x.entry(0, 100, 1, true);
        x.entry(0, 100, 1, false);
        x.end(0);
        x.row(0);
        x.entry(0, 100, 2, false);
        x.end(0);
        x.row(0);
        x.entry(0, 100000, 3, false);
        x.end(0);
        Checks.due("a and b", 103, x.at(0, 0, 0, 0));
        Checks.due("plain", 100, x.at(0, 0, 1, 0));
        Checks.due("e and zz", 157, x.at(0, 0, 2, 0));
        Checks.due("a and d", 105, x.at(0, 1, 0, 0));
        Checks.due("a and zz", 100053, x.at(0, 2, 0, 0));
        x.run(0, 0, 0);
        Checks.widths("with templates", x, 103, 100, 100053 - 203);
        AlignRows y = Checks.laid("a#&&b#&c#d");
        y.row(0);
        y.entry(0, 100, 4, false);
        y.entry(0, 100, 3, false);
        Checks.due("columns 0 to 3, a and nothing", 101, y.at(0, 0, 0, 0));
        Checks.due("columns 4 to 6, c and d", 107, y.at(0, 0, 1, 0));
    }

    private static void ends() {
        AlignRows x = new AlignRows();
        Checks.due("end of no table", -1, x.end(0));
        x.table();
        Checks.due("end without a preamble", -3, x.end(0));
        AlignRows y = Checks.laid("#&#");
        Checks.due("end without a row", -3, y.end(0));
        y.row(0);
        y.entry(0, 1, 1, true);
        y.entry(0, 1, 1, true);
        Checks.due("end", 2, y.end(0));
        Checks.due("end again", -3, y.end(0));
        y.row(0);
        Checks.due("end of an empty row", 0, y.end(0));
        Checks.due("end of table 1", -1, y.end(1));
    }

    private static void betweens() {
        AlignRows x = new AlignRows();
        Checks.due("between of no table", -1, x.between(0));
        x.table();
        Checks.due("between without a preamble", -3, x.between(0));
        AlignRows y = Checks.laid("#");
        y.row(0);
        Checks.due("between in a row", -3, y.between(0));
        y.end(0);
        for (int i = 1; i <= 20; i++) {
            Checks.due("between", i, y.between(0));
        }
        Checks.due("between the 21st", -4, y.between(0));
        Checks.due("rows", 1, y.count(0, 2));
        y.row(0);
        Checks.due("-3 before -4", -3, y.between(0));
    }

    private static void items() {
        AlignRows x = Checks.laid("#");
        Checks.refuses("item of nothing", () -> x.item(0, 0));
        x.between(0);
        x.row(0);
        Checks.due("item 0", -1, x.item(0, 0));
        Checks.due("item 1, open", 0, x.item(0, 1));
        Checks.refuses("item 2", () -> x.item(0, 2));
        x.end(0);
        x.row(0);
        x.end(0);
        x.between(0);
        x.between(0);
        x.row(0);
        x.end(0);
        int[] wanted = {-1, 0, 1, -2, -3, 2};
        for (int i = 0; i < wanted.length; i++) {
            Checks.due("item " + i, wanted[i], x.item(0, i));
        }
        Checks.refuses("item 6", () -> x.item(0, 6));
        Checks.refuses("item -1", () -> x.item(0, -1));
        Checks.refuses("item of table 1", () -> x.item(1, 0));
        Checks.refuses("item of table -1", () -> x.item(-1, 0));
        for (int i = 3; i < 20; i++) {
            x.row(0);
            x.end(0);
            x.between(0);
        }
        Checks.due("the last item", -20, x.item(0, 39));
        Checks.refuses("item 40", () -> x.item(0, 40));
    }

    private static void nesting() {
        AlignRows x = Checks.nestable(0, 0);
        Checks.due("nest", 0, x.nest(0, 1, 1));
        Checks.due("as wide as that one, and plain", 70, x.at(0, 0, 0, 0));
        x.run(1, 2, 30);
        Checks.due("nest again", 1, x.nest(0, 1, 1));
        Checks.due("as wide as it is set", 100, x.at(0, 0, 1, 0));
        Checks.due("the first one stands", 70, x.at(0, 0, 0, 0));
        Checks.due("span", 1, x.at(0, 0, 1, 2));
        Checks.due("end", 2, x.end(0));
        x.run(0, 0, 0);
        Checks.widths("nested", x, 70, 100);
        AlignRows y = Checks.nestable(1, 0);
        Checks.due("of width 0", 0, y.nest(0, 1, 2));
        Checks.due("width 0", 0, y.at(0, 0, 0, 0));
        Checks.due("span 2", 2, y.at(0, 0, 0, 2));
        AlignRows z = Checks.nestable(1, 100000);
        Checks.due("of width 100000", 0, z.nest(0, 1, 1));
        Checks.due("width 100000", 100000, z.at(0, 0, 0, 0));
        x.row(1);
        x.row(0);
        Checks.due("while a row of that one is open", 0, x.nest(0, 1, 1));
        Checks.due("width of its last run", 100, x.at(0, 1, 0, 0));
    }

    private static void nestingRefused() {
        AlignRows x = Checks.nestable(0, 0);
        Checks.due("no such table", -1, x.nest(2, 1, 1));
        Checks.due("no such other", -1, x.nest(0, 2, 1));
        Checks.due("other -1", -1, x.nest(0, -1, 1));
        Checks.due("-1 before -3", -1, x.nest(1, 2, 0));
        Checks.due("none is open", -3, x.nest(1, 0, 9));
        Checks.due("itself", -3, x.nest(0, 0, 1));
        Checks.due("span 0", -2, x.nest(0, 1, 0));
        Checks.due("span 9", -2, x.nest(0, 1, 9));
        Checks.due("too many columns", -1, x.nest(0, 1, 3));
        Checks.due("nothing was added", 0, x.count(0, 3));
        x.table();
        Checks.due("not run", -3, x.nest(0, 2, 0));
        x.end(0);
        x.run(0, 0, 0);
        x.row(0);
        Checks.due("itself, though run", -3, x.nest(0, 0, 1));
        Checks.due("below 0", -3, Checks.nestable(1, -1).nest(0, 1, 0));
        Checks.due("above 100000", -3, Checks.nestable(1, 100001).nest(0, 1, 3));
    }

    private static void boxes() {
        AlignRows x = Checks.laid("#&&#");
        x.glue(0, 0, 5, 0, 0);
        x.glue(0, 1, 10, 4, 0);
        x.glue(0, 2, 20, 0, 0);
        x.row(0);
        x.entry(0, 100, 1, true);
        x.entry(0, 50, 1, true);
        Checks.due("box place before a run", 0, x.at(0, 0, 0, 3));
        Checks.due("box width before a run", 0, x.at(0, 0, 0, 4));
        x.end(0);
        x.run(0, 2, 4);
        x.row(0);
        x.entry(0, 7, 2, true);
        x.entry(0, 8, 1, true);
        x.end(0);
        x.row(0);
        x.entry(0, 7, 1, true);
        x.entry(0, 9, 2, true);
        x.end(0);
        box(x, 0, 0, 5, 100);
        box(x, 0, 1, 119, 50);
        box(x, 1, 0, 5, 164);
        box(x, 1, 1, 0, 0);
        box(x, 2, 0, 5, 100);
        box(x, 2, 1, 0, 0);
        x.run(0, 0, 0);
        box(x, 1, 0, 5, 160);
        box(x, 1, 1, 185, 8);
        box(x, 2, 1, 115, 78);
        Checks.due("the width of the entry stands", 7, x.at(0, 1, 0, 0));
    }

    private static void box(AlignRows x, int row, int i, long place, long width) {
        Checks.due("box place of " + row + ", " + i, place, x.at(0, row, i, 3));
        Checks.due("box width of " + row + ", " + i, width, x.at(0, row, i, 4));
    }

    private static void atRefused() {
        AlignRows x = Checks.laid("#&#");
        Checks.refuses("at without a row", () -> x.at(0, 0, 0, 0));
        x.row(0);
        Checks.refuses("at without an entry", () -> x.at(0, 0, 0, 0));
        x.entry(0, 5, 1, true);
        Checks.due("at in an open row", 5, x.at(0, 0, 0, 0));
        for (int what = 0; what < 5; what++) {
            int asked = what;
            Checks.refuses("entry 1", () -> x.at(0, 0, 1, asked));
            Checks.refuses("entry -1", () -> x.at(0, 0, -1, asked));
            Checks.refuses("row 1", () -> x.at(0, 1, 0, asked));
            Checks.refuses("row -1", () -> x.at(0, -1, 0, asked));
            Checks.refuses("row 20", () -> x.at(0, 20, 0, asked));
            Checks.refuses("table 1", () -> x.at(1, 0, 0, asked));
            Checks.refuses("table -1", () -> x.at(-1, 0, 0, asked));
        }
        Checks.refuses("what 5", () -> x.at(0, 0, 0, 5));
        Checks.refuses("what -1", () -> x.at(0, 0, 0, -1));
    }

    private static void counts() {
        AlignRows x = Checks.laid("#&&#&#");
        Checks.plainRow(x, 1, 1, 1, 1);
        Checks.plainRow(x, 1, 3);
        x.row(0);
        x.entry(0, 1, 1, true);
        long[] wanted = {3, 1, 3, 4, 1, 6, 0, 0, 0, 0, -1, 0};
        for (int what = 0; what < wanted.length; what++) {
            Checks.due("count " + what, wanted[what], x.count(0, what));
        }
        Checks.refuses("count 12", () -> x.count(0, 12));
        Checks.refuses("count -1", () -> x.count(0, -1));
        Checks.refuses("count of table 1", () -> x.count(1, 0));
        Checks.refuses("count of table -1", () -> x.count(-1, 0));
    }
}
