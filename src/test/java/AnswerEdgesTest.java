/** What a table answers of itself (promises 16 to 18): each sentence that names a boundary case. */
public final class AnswerEdgesTest {
    public static void main(String[] args) {
        fiveAnswers();
        boxesOfRuns();
        noSuchEntry();
        behindTheLastEntry();
        itemsFromTheTop();
        noSuchItem();
        templatesAndRepeating();
        rowsAndEntries();
        openRow();
        tape();
        columnsOfTheRun();
        runsOfATable();
        orderAndMissing();
        noSuchCount();
        Checks.finish();
    }

    private static void fiveAnswers() {
        Checks.sentence("Of entry i of a row: what = 0 its width, 1 its first column, 2 its span,"
                + " 3 where its box begins, 4 the width of its box");
        AlignRows x = Checks.laid("&a#");
        x.glue(0, 0, 2, 0, 0);
        x.row(0);
        x.entry(0, 0, 1, false);
        x.entry(0, 100000, 8, false);
        x.entry(0, 9, 2, true);
        x.end(0);
        Checks.plainRow(x, 30, 1);
        x.run(0, 0, 0);
        long[][] wanted = {{1, 0, 1, 2, 30}, {100001, 1, 8, 32, 100001}, {9, 9, 2, 100033, 9}};
        for (int i = 0; i < 3; i++) {
            int entry = i;
            for (int what = 0; what < 5; what++) {
                Checks.due("entry " + i + ", what " + what, wanted[i][what], x.at(0, 0, i, what));
            }
            Checks.refuses("entry " + i + ", what -1", () -> x.at(0, 0, entry, -1));
            Checks.refuses("entry " + i + ", what 5", () -> x.at(0, 0, entry, 5));
        }
    }

    private static void box(String what, AlignRows x, int row, int i, long place, long width) {
        Checks.due(what + ": where its box begins", place, x.at(0, row, i, 3));
        Checks.due(what + ": the width of its box", width, x.at(0, row, i, 4));
    }

    private static void boxesOfRuns() {
        Checks.sentence("(3 and 4 by the last run, 0 if that did not go so far)");
        AlignRows x = Checks.laid("#&&#");
        x.glue(0, 0, 5, 0, 0);
        Checks.plainRow(x, 10, 1, 20, 1);
        box("no run", x, 0, 0, 0, 0);
        box("no run", x, 0, 1, 0, 0);
        x.run(0, 0, 0);
        x.row(0);
        x.entry(0, 77, 1, true);
        x.entry(0, 77, 1, true);
        x.entry(0, 77, 1, true);
        x.end(0);
        x.row(0);
        x.entry(0, 77, 2, true);
        x.entry(0, 77, 8, true);
        x.end(0);
        x.row(0);
        x.entry(0, 77, 3, true);
        box("the run went as far, though the entry is new", x, 1, 0, 5, 10);
        box("just as far", x, 1, 1, 15, 20);
        box("just not so far", x, 1, 2, 0, 0);
        box("just as far with its last column", x, 2, 0, 5, 30);
        box("not so far at all", x, 2, 1, 0, 0);
        box("not so far with its last column", x, 3, 0, 0, 0);
        Checks.due("its width all the same", 77, x.at(0, 3, 0, 0));
        Checks.due("its first column all the same", 2, x.at(0, 1, 2, 1));
        Checks.due("its span all the same", 3, x.at(0, 3, 0, 2));
        x.end(0);
        x.run(0, 0, 0);
        box("the next run did", x, 1, 2, 5 + 77 + 77, 77);
        box("the next run did", x, 3, 0, 5, 77 * 3);
    }

    private static void noSuchEntry() {
        Checks.sentence("ArrayIndexOutOfBounds: there is no such table, row, entry or what.");
        AlignRows x = Checks.laid("&#");
        Checks.refuses("no row", () -> x.at(0, 0, 0, 0));
        x.row(0);
        Checks.refuses("no entry", () -> x.at(0, 0, 0, 0));
        x.entry(0, 5, 1, true);
        x.entry(0, 6, 1, true);
        x.end(0);
        x.row(0);
        x.entry(0, 7, 1, true);
        x.table();
        Checks.due("the last entry", 6, x.at(0, 0, 1, 0));
        Checks.due("an open row", 7, x.at(0, 1, 0, 0));
        int[] none = {-1, 2, 3, 19, 20, 24, Integer.MAX_VALUE, Integer.MIN_VALUE};
        for (int number : none) {
            Checks.refuses("table " + number, () -> x.at(number, 0, 0, 0));
            Checks.refuses("row " + number, () -> x.at(0, number, 0, 0));
            Checks.refuses("entry " + number, () -> x.at(0, 0, number, 0));
        }
        Checks.refuses("table 1 has no rows", () -> x.at(1, 0, 0, 0));
        Checks.refuses("row 1 has no entry 1", () -> x.at(0, 1, 1, 0));
    }

    private static void behindTheLastEntry() {
        Checks.sentence("there is no such table, row, entry or what.");
        AlignRows x = Checks.laid("&#");
        for (int r = 0; r < 20; r++) {
            x.row(0);
            int entries = r == 19 ? 24 : 1;
            for (int c = 0; c < entries; c++) {
                x.entry(0, r + c, 1, true);
            }
            x.end(0);
        }
        Checks.due("the last of 20 rows, the last of 24 entries", 42, x.at(0, 19, 23, 0));
        Checks.refuses("row 20 of 20", () -> x.at(0, 20, 0, 0));
        Checks.refuses("row 21 of 20", () -> x.at(0, 21, 0, 0));
        Checks.refuses("entry 24 of 24", () -> x.at(0, 19, 24, 0));
        Checks.refuses("entry 1 of 1", () -> x.at(0, 18, 1, 0));
    }

    private static void itemsFromTheTop() {
        Checks.sentence("What stands at place i from the top: a row's number,"
                + " or -1 less that of something between (from 0 on).");
        AlignRows x = Checks.laid("#");
        x.between(0);
        x.between(0);
        Checks.plainRow(x);
        x.between(0);
        x.row(0);
        int[] wanted = {-1, -2, 0, -3, 1};
        for (int i = 0; i < wanted.length; i++) {
            Checks.due("item " + i, wanted[i], x.item(0, i));
        }
        x.end(0);
        Checks.due("an ended row", 1, x.item(0, 4));
        AlignRows y = Checks.laid("#");
        for (int i = 0; i < 20; i++) {
            y.row(0);
            y.end(0);
            y.between(0);
        }
        for (int i = 0; i < 20; i++) {
            Checks.due("row " + i, i, y.item(0, 2 * i));
            Checks.due("between " + i, -1 - i, y.item(0, 2 * i + 1));
        }
        Checks.refuses("item 40", () -> y.item(0, 40));
    }

    private static void noSuchItem() {
        Checks.sentence("(from 0 on). ArrayIndexOutOfBounds: there is none.");
        AlignRows x = new AlignRows();
        Checks.refuses("no table", () -> x.item(0, 0));
        x.table();
        Checks.refuses("no preamble", () -> x.item(0, 0));
        x.type(0, '#', 0, 0);
        x.lay(0);
        Checks.refuses("nothing", () -> x.item(0, 0));
        x.between(0);
        Checks.due("item 0", -1, x.item(0, 0));
        int[] none = {-1, 1, 2, 39, 40, Integer.MAX_VALUE, Integer.MIN_VALUE};
        for (int number : none) {
            Checks.refuses("item " + number, () -> x.item(0, number));
            Checks.refuses("table " + number, () -> x.item(number, 0));
        }
        x.row(0);
        x.row(0);
        Checks.refuses("a refused row", () -> x.item(0, 2));
    }

    private static void templatesAndRepeating() {
        Checks.sentence("Of a table: what = 0 templates (0 without a preamble),"
                + " 1 the one from which they repeat (NONE)");
        AlignRows x = new AlignRows();
        x.table();
        Checks.due("templates of nothing", 0, x.count(0, 0));
        Checks.due("nothing repeats", AlignRows.NONE, x.count(0, 1));
        Checks.typeText(x, 0, "#&&#&");
        Checks.due("templates of a tape alone", 0, x.count(0, 0));
        Checks.due("a tape alone repeats not", -1, x.count(0, 1));
        x.lay(0);
        Checks.due("templates of a wrong tape", 0, x.count(0, 0));
        Checks.due("a wrong tape repeats not", -1, x.count(0, 1));
        String[] preambles = {"#", "&#", "#&#", "&#&#", "#&&#", "#&".repeat(11) + "#", "#&".repeat(11) + "&#"};
        int[] templates = {1, 1, 2, 2, 2, 12, 12};
        int[] repeating = {-1, 0, -1, 0, 1, -1, 11};
        for (int i = 0; i < preambles.length; i++) {
            AlignRows y = Checks.laid(preambles[i]);
            Checks.due("templates of " + preambles[i], templates[i], y.count(0, 0));
            Checks.due(preambles[i] + " repeats from", repeating[i], y.count(0, 1));
        }
    }

    private static void rowsAndEntries() {
        Checks.sentence("2 rows, 3 entries of all");
        AlignRows x = Checks.laid("&#");
        Checks.due("no rows", 0, x.count(0, 2));
        Checks.due("no entries", 0, x.count(0, 3));
        for (int r = 0; r < 20; r++) {
            x.row(0);
            Checks.due("an open row is one", r + 1, x.count(0, 2));
            Checks.due("without entries", 18 * r, x.count(0, 3));
            for (int c = 0; c < 18; c++) {
                x.entry(0, 1, 1, true);
            }
            Checks.due("entries of an open row too", 18 * r + 18, x.count(0, 3));
            x.end(0);
        }
    }

    private static void openRow() {
        Checks.sentence("4 whether a row is open (1 or 0)");
        AlignRows x = new AlignRows();
        x.table();
        Checks.due("no preamble", 0, x.count(0, 4));
        x.type(0, '#', 0, 0);
        x.lay(0);
        Checks.due("no row", 0, x.count(0, 4));
        x.row(0);
        Checks.due("open", 1, x.count(0, 4));
        x.row(0);
        Checks.due("open still", 1, x.count(0, 4));
        x.end(0);
        Checks.due("ended", 0, x.count(0, 4));
        x.between(0);
        Checks.due("something between", 0, x.count(0, 4));
    }

    private static void tape() {
        Checks.sentence("5 characters on the tape");
        AlignRows x = new AlignRows();
        x.table();
        for (int length = 0; length < 40; length++) {
            Checks.due("characters", length, x.count(0, 5));
            x.type(0, length == 0 ? '#' : 'a', 0, 0);
        }
        Checks.due("40", 40, x.count(0, 5));
        x.type(0, 'a', 0, 0);
        Checks.due("no more than 40", 40, x.count(0, 5));
        x.lay(0);
        Checks.due("a preamble stands on it", 40, x.count(0, 5));
        x.table();
        Checks.due("another table", 0, x.count(1, 5));
    }

    private static void columnsOfTheRun() {
        Checks.sentence("6 columns of the last run, 7 the natural width by it, 8 the excess");
        AlignRows x = Checks.laid("&#&#");
        for (int what = 6; what <= 8; what++) {
            Checks.due("count " + what + " without a run", 0, x.count(0, what));
        }
        Checks.plainRow(x, 10, 1, 10, 1, 10, 1);
        for (int what = 6; what <= 8; what++) {
            Checks.due("count " + what + " without a run still", 0, x.count(0, what));
        }
        x.run(0, 1, 25);
        Checks.plainRow(x, 99, 1, 10, 1, 10, 1, 10, 1);
        x.glue(0, 0, 99, 0, 0);
        long[] wanted = {3, 30, -5};
        for (int what = 6; what <= 8; what++) {
            Checks.due("count " + what + " of the last run", wanted[what - 6], x.count(0, what));
        }
    }

    private static void runsOfATable() {
        Checks.sentence("9 runs");
        AlignRows x = Checks.laid("#");
        Checks.due("none", 0, x.count(0, 9));
        for (int runs = 1; runs <= 130; runs++) {
            x.run(0, runs % 3, 0);
            Checks.due("runs", runs, x.count(0, 9));
            x.run(0, -1, 0);
        }
        x.table();
        Checks.due("of another table", 0, x.count(1, 9));
    }

    private static void orderAndMissing() {
        Checks.sentence("10 the order (NONE: none), 11 what is missing.");
        AlignRows x = Checks.laid("#");
        Checks.due("order without a run", AlignRows.NONE, x.count(0, 10));
        Checks.due("missing without a run", 0, x.count(0, 11));
        x.glue(0, 0, 0, 1, 3);
        x.run(0, 2, 5);
        Checks.due("order 3", 3, x.count(0, 10));
        Checks.due("nothing is missing", 0, x.count(0, 11));
        x.run(0, 2, -5);
        Checks.due("no order", -1, x.count(0, 10));
        Checks.due("all is missing", 5, x.count(0, 11));
        x.run(0, 0, 0);
        Checks.due("no order", -1, x.count(0, 10));
        Checks.due("nothing is missing", 0, x.count(0, 11));
        x.glue(0, 0, 0, 1, 0);
        x.run(0, 2, 5);
        Checks.due("order 0", 0, x.count(0, 10));
    }

    private static void noSuchCount() {
        Checks.sentence("ArrayIndexOutOfBounds: there is no such table, or what.");
        AlignRows x = new AlignRows();
        Checks.refuses("no table", () -> x.count(0, 0));
        x.table();
        for (int what = 0; what < 12; what++) {
            int asked = what;
            Checks.due("count " + what, what == 1 || what == 10 ? -1 : 0, x.count(0, what));
            Checks.refuses("count " + what + " of table 1", () -> x.count(1, asked));
            Checks.refuses("count " + what + " of table -1", () -> x.count(-1, asked));
        }
        int[] none = {-1, 12, 13, Integer.MAX_VALUE, Integer.MIN_VALUE};
        for (int number : none) {
            Checks.refuses("count " + number, () -> x.count(0, number));
            Checks.refuses("table " + number, () -> x.count(number, 0));
        }
    }
}
