/** Promises 1 to 4: a new object, table, type, lay; and the columns of a preamble. */
public final class PreambleTest {
    public static void main(String[] args) {
        newObject();
        tables();
        typing();
        typingRefused();
        fullTape();
        preambles();
        wrongPlaces();
        layRefused();
        anew();
        Checks.finish();
    }

    private static void newObject() {
        AlignRows x = new AlignRows();
        int[] numbers = {0, -1, 5, 6, Integer.MAX_VALUE, Integer.MIN_VALUE};
        for (int n : numbers) {
            Checks.due("type(" + n + ")", -1, x.type(n, 35, 0, 0));
            Checks.due("lay(" + n + ")", -1, x.lay(n));
            Checks.due("run(" + n + ")", -1, x.run(n, 0, 0));
            Checks.refuses("count(" + n + ", 0)", () -> x.count(n, 0));
        }
    }

    private static void tables() {
        AlignRows x = new AlignRows();
        for (int i = 0; i < 6; i++) {
            Checks.due("type(" + i + ") too early", -1, x.type(i, 35, 0, 0));
            Checks.due("table()", i, x.table());
            Checks.due("count(" + i + ", 0)", 0, x.count(i, 0));
            Checks.due("count(" + i + ", 1)", -1, x.count(i, 1));
            Checks.due("count(" + i + ", 5)", 0, x.count(i, 5));
        }
        Checks.due("a seventh table()", -4, x.table());
        Checks.due("an eighth table()", -4, x.table());
        Checks.due("type(6)", -1, x.type(6, 35, 0, 0));
        Checks.due("type(-1)", -1, x.type(-1, 35, 0, 0));
        Checks.due("type(5)", 1, x.type(5, 35, 0, 0));
        Checks.due("type(4)", 0, x.type(4, 0, 0, 0));
    }

    private static void typing() {
        AlignRows x = new AlignRows();
        x.table();
        Checks.due("nothing typed", 0, x.type(0, 0, 0, 0));
        // the order of the signs shows in the preamble: a#b&c#
        Checks.due("a # and b", 3, x.type(0, 'a' << 16 | '#', 0, 'b' << 24));
        Checks.due("& c # with zeros between", 6, x.type(0, 0, '&' << 24 | 'c', '#' << 8));
        Checks.due("count 5", 6, x.count(0, 5));
        Checks.due("lay", 2, x.lay(0));
        Checks.due("count 5 after lay", 6, x.count(0, 5));
        x.row(0);
        x.entry(0, 100, 1, false);
        x.entry(0, 100, 1, false);
        Checks.due("a and b", 103, x.at(0, 0, 0, 0));
        Checks.due("c", 103, x.at(0, 0, 1, 0));
    }

    private static void typingRefused() {
        AlignRows x = new AlignRows();
        x.table();
        int[] wrong = {' ', 'A', 'Z', 'a' - 1, 'z' + 1, '"', '$', '%', '\'', 1, 127, 128, 255, '0'};
        for (int sign : wrong) {
            Checks.due("sign " + sign + " lowest", -2, x.type(0, sign, 0, 0));
            Checks.due("sign " + sign + " highest", -2, x.type(0, '#', 0, sign << 24));
            Checks.due("sign " + sign + " within", -2, x.type(0, 0, '#' << 24 | sign << 8, 0));
        }
        Checks.due("nothing was typed", 0, x.count(0, 5));
        Checks.due("all right signs", 4, x.type(0, 'a' << 24 | 'z' << 16 | '#' << 8 | '&', 0, 0));
        AlignRows y = Checks.laid("#");
        Checks.due("-2 before -3", -2, y.type(0, 'A', 0, 0));
        Checks.due("-3", -3, y.type(0, 'a', 0, 0));
        Checks.due("-3 for nothing too", -3, y.type(0, 0, 0, 0));
        Checks.due("the tape stands", 1, y.count(0, 5));
    }

    private static void fullTape() {
        AlignRows x = new AlignRows();
        x.table();
        int four = Checks.pack("abcd", 0);
        Checks.due("12", 12, x.type(0, four, four, four));
        Checks.due("24", 24, x.type(0, four, four, four));
        Checks.due("36", 36, x.type(0, four, four, four));
        Checks.due("five more", -4, x.type(0, four, 'a', 0));
        Checks.due("-2 before -4", -2, x.type(0, four, 'A', 0));
        Checks.due("one more", 37, x.type(0, 0, '#', 0));
        Checks.due("four more", -4, x.type(0, 0, 0, four));
        Checks.due("three more", 40, x.type(0, Checks.pack("abc", 0), 0, 0));
        Checks.due("one more still", -4, x.type(0, 'a', 0, 0));
        Checks.due("nothing more", 40, x.type(0, 0, 0, 0));
        Checks.due("lay", 1, x.lay(0));
        AlignRows y = new AlignRows();
        y.table();
        Checks.typeText(y, 0, "a#&".repeat(11) + "a#&&");
        Checks.due("-4 for more, at 37", -4, y.type(0, four, 0, 0));
        Checks.due("lay: the & before a thirteenth one", -10 - 35, y.lay(0));
    }

    private static void good(String tape, int templates, int repeatFrom, int columns) {
        AlignRows x = new AlignRows();
        x.table();
        Checks.due("typing " + tape, tape.length(), Checks.typeText(x, 0, tape));
        Checks.due("lay of " + tape, templates, x.lay(0));
        Checks.due("count 0 of " + tape, templates, x.count(0, 0));
        Checks.due("count 1 of " + tape, repeatFrom, x.count(0, 1));
        Checks.due("count 5 of " + tape, tape.length(), x.count(0, 5));
        x.row(0);
        for (int c = 0; c < columns; c++) {
            Checks.due("column " + c + " of " + tape, c, x.entry(0, 1, 1, true));
        }
        Checks.due("no more columns of " + tape, -1, x.entry(0, 1, 1, true));
    }

    private static void preambles() {
        good("#", 1, -1, 1);
        good("a#z", 1, -1, 1);
        good("#&#", 2, -1, 2);
        good("a#b&c#d&#", 3, -1, 3);
        good("&#", 1, 0, 24);
        good("&#&#&a#", 3, 0, 24);
        good("#&&#", 2, 1, 24);
        good("#&#&&#&#", 4, 2, 24);
        good("#&#&#&&#", 4, 3, 24);
        good("#&".repeat(11) + "#", 12, -1, 12);
        good("&" + "#&".repeat(11) + "#", 12, 0, 24);
        good("#&".repeat(11) + "&#", 12, 11, 24);
        good("#&&" + "#&".repeat(10) + "#", 12, 1, 24);
        good("abcdefghijklmnopqrstuvwxyz#abcdefghijklm", 1, -1, 1);
        repeatedTemplates();
    }

    /** From column n on, column c is as r + (c - r) modulo (n - r). */
    private static void repeatedTemplates() {
        AlignRows x = Checks.laid("a#&b#&&c#&d#&e#");
        x.row(0);
        int[] before = {1, 2, 3, 4, 5, 3, 4, 5, 3, 4, 5, 3, 4, 5, 3, 4, 5, 3, 4, 5, 3, 4, 5, 3};
        for (int c = 0; c < 24; c++) {
            x.entry(0, 10, 1, false);
            Checks.due("the template of column " + c, 10 + before[c], x.at(0, 0, c, 0));
        }
        AlignRows y = Checks.laid("&#a&#b");
        y.row(0);
        for (int c = 0; c < 24; c++) {
            y.entry(0, 10, 1, false);
            Checks.due("the template of column " + c, 11 + c % 2, y.at(0, 0, c, 0));
        }
    }

    private static void wrong(String tape, int place) {
        AlignRows x = new AlignRows();
        x.table();
        Checks.typeText(x, 0, tape);
        Checks.due("lay of " + tape, -10 - place, x.lay(0));
        Checks.due("the tape after " + tape, 0, x.count(0, 5));
        Checks.due("templates after " + tape, 0, x.count(0, 0));
        Checks.due("repeating after " + tape, -1, x.count(0, 1));
        Checks.due("row after " + tape, -3, x.row(0));
        Checks.due("the empty tape after " + tape, -10, x.lay(0));
    }

    private static void wrongPlaces() {
        wrong("", 0);
        wrong("a", 1);
        wrong("abc", 3);
        wrong("&", 1);
        wrong("&abc", 4);
        wrong("&&", 1);
        wrong("&&#", 1);
        wrong("##", 1);
        wrong("a#b#", 3);
        wrong("a&#", 1);
        wrong("&a&#", 2);
        wrong("#&", 2);
        wrong("#&&", 3);
        wrong("#&&&#", 3);
        wrong("#&a&#", 3);
        wrong("#&&a&#", 4);
        wrong("&#&&#", 3);
        wrong("&#&#&&#", 5);
        wrong("#&&#&&#", 5);
        wrong("#&&#&#&&#", 7);
        wrong("#&#&a", 5);
        wrong("#&".repeat(12), 23);
        wrong("#&".repeat(12) + "#", 23);
        wrong("#&".repeat(12) + "&#", 23);
        wrong("&" + "#&".repeat(12) + "#", 24);
        wrong("#&&" + "#&".repeat(11) + "#", 24);
        wrong("a".repeat(40), 40);
        wrong("a#".repeat(20), 3);
    }

    private static void layRefused() {
        AlignRows x = Checks.laid("#&#");
        Checks.due("lay again", -3, x.lay(0));
        Checks.due("count 5", 3, x.count(0, 5));
        Checks.due("lay(-1)", -1, x.lay(-1));
        Checks.due("lay(1)", -1, x.lay(1));
    }

    /** What a wrong tape left must not reach the next preamble. */
    private static void anew() {
        AlignRows x = new AlignRows();
        x.table();
        Checks.typeText(x, 0, "&zz#zz#");
        Checks.due("lay of a wrong tape", -16, x.lay(0));
        Checks.typeText(x, 0, "a#b&#");
        Checks.due("lay of a right tape", 2, x.lay(0));
        Checks.due("no repeating", -1, x.count(0, 1));
        x.row(0);
        x.entry(0, 10, 1, false);
        Checks.due("only a and b", 13, x.at(0, 0, 0, 0));
    }
}
