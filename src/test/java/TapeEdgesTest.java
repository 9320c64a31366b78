/** Tables, tapes, preambles and columns (promises 1 to 4): each sentence that names a boundary case. */
public final class TapeEdgesTest {
    private static final int FOUR = Checks.pack("abcd", 0);

    public static void main(String[] args) {
        numbersOfTables();
        seventhTable();
        newObject();
        lastCall();
        tapeIsFull();
        signsOrNot();
        orderOfSigns();
        typeRefused();
        laySmallest();
        layMost();
        wrongTapeIsEmptied();
        layRefused();
        beginnings();
        doubledOnce();
        repeatFrom();
        letters();
        oneMark();
        twelveTemplates();
        firstWrongCharacter();
        thirteenthTemplate();
        endsTooSoon();
        everyShortTape();
        repeatedColumns();
        columnsWithoutRepeating();
        Checks.finish();
    }

    private static AlignRows withTable() {
        AlignRows x = new AlignRows();
        x.table();
        return x;
    }

    private static void numbersOfTables() {
        Checks.sentence("TABLES are numbered from 0 on, at most 6.");
        AlignRows x = new AlignRows();
        for (int n = 0; n < 6; n++) {
            Checks.due("type(" + n + ") before that table", -1, x.type(n, '#', 0, 0));
            Checks.due("table()", n, x.table());
            Checks.due("type(" + n + ")", 1, x.type(n, '#', 0, 0));
            Checks.due("type(" + n + ") once more", 2, x.type(n, '#', 0, 0));
        }
        Checks.due("type(6)", -1, x.type(6, '#', 0, 0));
        Checks.due("type(-1)", -1, x.type(-1, '#', 0, 0));
    }

    private static void seventhTable() {
        Checks.sentence("A table: its number. -4.");
        AlignRows x = new AlignRows();
        for (int n = 0; n < 6; n++) {
            Checks.due("table()", n, x.table());
            Checks.typeText(x, n, "abcdef".substring(n));
        }
        Checks.due("a seventh table()", -4, x.table());
        Checks.due("an eighth table()", -4, x.table());
        for (int n = 0; n < 6; n++) {
            Checks.due("the tape of table " + n + " stands", 6 - n, x.count(n, 5));
        }
        Checks.refuses("count(6, 5)", () -> x.count(6, 5));
    }

    private static void newObject() {
        Checks.sentence("`AlignRows()`: No tables.");
        AlignRows x = new AlignRows();
        Checks.due("type", -1, x.type(0, '#', 0, 0));
        Checks.due("lay", -1, x.lay(0));
        Checks.due("glue", -1, x.glue(0, 0, 0, 0, 0));
        Checks.due("shrink", -1, x.shrink(0, 0, 0, 0));
        Checks.due("row", -1, x.row(0));
        Checks.due("entry", -1, x.entry(0, 0, 1, true));
        Checks.due("nest", -1, x.nest(0, 0, 1));
        Checks.due("end", -1, x.end(0));
        Checks.due("between", -1, x.between(0));
        Checks.due("run", -1, x.run(0, 0, 0));
        Checks.due("width", -1, x.width(0, 0));
        Checks.due("isVoid", 0, x.isVoid(0, 0) ? 1 : 0);
        Checks.refuses("place", () -> x.place(0, 0));
        Checks.refuses("at", () -> x.at(0, 0, 0, 0));
        Checks.refuses("item", () -> x.item(0, 0));
        Checks.refuses("count", () -> x.count(0, 0));
        Checks.due("and the first table is number 0", 0, x.table());
    }

    /** 3 calls before the rows, 480 for them, 20 between, and 9 at the end. */
    private static void lastCall() {
        Checks.sentence("An object is used for at most 512 calls after it has been made");
        AlignRows x = withTable();
        x.type(0, '&' << 8 | '#', 0, 0);
        x.lay(0);
        for (int r = 0; r < 20; r++) {
            x.row(0);
            for (int c = 0; c < 22; c++) {
                x.entry(0, r + c, 1, true);
            }
            x.end(0);
            x.between(0);
        }
        for (int run = 504; run <= 510; run++) {
            Checks.due("call " + run, 22 * 19 + 21 * 22 / 2, x.run(0, 0, 0));
        }
        Checks.due("call 511", 440, x.count(0, 3));
        Checks.due("call 512", 7, x.count(0, 9));
    }

    private static void tapeIsFull() {
        Checks.sentence("A table's TAPE has up to 40 characters");
        AlignRows x = withTable();
        for (int length = 1; length <= 40; length++) {
            Checks.due("one more", length, x.type(0, 0, 0, 'a'));
        }
        Checks.due("the 41st", -4, x.type(0, 'a', 0, 0));
        Checks.due("none more", 40, x.type(0, 0, 0, 0));
        AlignRows y = withTable();
        y.type(0, FOUR, FOUR, FOUR);
        Checks.due("28", 28, y.type(0, FOUR, FOUR, FOUR) + y.type(0, 0, FOUR, 0) - 24);
        Checks.due("twelve more are 40", 40, y.type(0, FOUR, FOUR, FOUR));
        AlignRows z = withTable();
        z.type(0, FOUR, FOUR, FOUR);
        z.type(0, FOUR, FOUR, FOUR);
        z.type(0, FOUR, 'a', 0);
        Checks.due("twelve more would be 41", -4, z.type(0, FOUR, FOUR, FOUR));
        Checks.due("none of them was typed", 29, z.count(0, 5));
        Checks.due("eleven more are 40", 40, z.type(0, FOUR, Checks.pack("ab#", 0), FOUR));
        Checks.due("a preamble of 40", 1, z.lay(0));
        Checks.due("it stands", 40, z.count(0, 5));
    }

    /** Each byte, at each of the twelve places that a call has for it. */
    private static void signsOrNot() {
        Checks.sentence("-2 one is none of a .. z, # and &");
        for (int place = 0; place < 12; place++) {
            AlignRows x = withTable();
            int length = 0;
            for (int sign = 1; sign < 256; sign++) {
                boolean right = sign >= 'a' && sign <= 'z' || sign == '#' || sign == '&';
                length += right ? 1 : 0;
                Checks.due("sign " + sign + " at " + place, right ? length : -2, typeAt(x, place, sign));
            }
            Checks.due("zeros alone", 28, x.type(0, 0, 0, 0));
        }
        AlignRows y = withTable();
        Checks.due("a wrong one behind right ones", -2, y.type(0, FOUR, FOUR, FOUR & ~255 | 'A'));
        Checks.due("a wrong one before right ones", -2, y.type(0, 'A' << 24 | FOUR & 0xffffff, FOUR, FOUR));
        Checks.due("nothing was typed", 0, y.count(0, 5));
    }

    private static int typeAt(AlignRows x, int place, int sign) {
        int packed = sign << 24 - place % 4 * 8;
        return x.type(0, place < 4 ? packed : 0, place >= 4 && place < 8 ? packed : 0, place >= 8 ? packed : 0);
    }

    /** #& ends too soon, but &# is a preamble: so the order of any two places shows. */
    private static void orderOfSigns() {
        Checks.sentence("Characters behind the tape, those of the three numbers that are not 0, the highest byte first:"
                + " its length.");
        for (int first = 0; first < 12; first++) {
            for (int second = first + 1; second < 12; second++) {
                int[] numbers = new int[3];
                numbers[first / 4] |= '#' << 24 - first % 4 * 8;
                numbers[second / 4] |= '&' << 24 - second % 4 * 8;
                AlignRows x = withTable();
                Checks.due("two signs", 2, x.type(0, numbers[0], numbers[1], numbers[2]));
                Checks.due("# at " + first + " and & at " + second, -12, x.lay(0));
            }
        }
        AlignRows y = withTable();
        y.type(0, '&', 0, 0);
        Checks.due("behind what is there", 2, y.type(0, '#', 0, 0));
        Checks.due("lay", 1, y.lay(0));
    }

    private static void typeRefused() {
        Checks.sentence("-1; -2 one is none of a .. z, # and &; -3 it has a preamble; -4.");
        AlignRows x = withTable();
        Checks.due("-1 before -2", -1, x.type(1, 'A', 0, 0));
        Checks.due("-1", -1, x.type(-1, 'a', 0, 0));
        Checks.typeText(x, 0, "#".repeat(2) + "a".repeat(38));
        Checks.due("-2 before -4", -2, x.type(0, 'a', 'A', 0));
        Checks.due("-4", -4, x.type(0, 'a', 0, 0));
        x.lay(0);
        Checks.due("a wrong preamble is none", 1, x.type(0, '#', 0, 0));
        Checks.typeText(x, 0, "a".repeat(39));
        x.lay(0);
        Checks.due("-2 before -3", -2, x.type(0, 'A', 0, 0));
        Checks.due("-3 before -4", -3, x.type(0, 'a', 0, 0));
        Checks.due("-3 with nothing to type", -3, x.type(0, 0, 0, 0));
    }

    private static void lays(String tape, int templates, int repeating) {
        AlignRows x = withTable();
        Checks.typeText(x, 0, tape);
        Checks.due("lay of " + tape, templates, x.lay(0));
        Checks.due("templates of " + tape, templates, x.count(0, 0));
        Checks.due("where " + tape + " repeats", repeating, x.count(0, 1));
        Checks.due("the tape " + tape, tape.length(), x.count(0, 5));
    }

    private static void isWrong(String tape, int place) {
        AlignRows x = withTable();
        Checks.typeText(x, 0, tape);
        Checks.due("lay of " + tape, -10 - place, x.lay(0));
        Checks.due("the tape after " + tape, 0, x.count(0, 5));
        Checks.due("templates after " + tape, 0, x.count(0, 0));
        Checks.due("no repeating after " + tape, -1, x.count(0, 1));
    }

    private static void laySmallest() {
        Checks.sentence("The tape is a preamble: how many templates;");
        lays("#", 1, -1);
        lays("&#", 1, 0);
        lays("#&#", 2, -1);
    }

    private static void layMost() {
        Checks.sentence("or -10 less the wrong place: then the tape is empty.");
        isWrong("", 0);
        isWrong("&&", 1);
        isWrong("a".repeat(38) + "##", 39);
        isWrong("a".repeat(40), 40);
        AlignRows x = withTable();
        Checks.due("an empty tape", -10, x.lay(0));
        Checks.due("an empty tape once more", -10, x.lay(0));
    }

    private static void wrongTapeIsEmptied() {
        Checks.sentence("then the tape is empty.");
        AlignRows x = withTable();
        Checks.typeText(x, 0, "&zz#zz&" + "z".repeat(33));
        Checks.due("a wrong tape of 40", -50, x.lay(0));
        Checks.due("it is empty", -10, x.lay(0));
        Checks.due("room for 40", 40, Checks.typeText(x, 0, "a#b&" + "#&".repeat(10) + "c#" + "b".repeat(14)));
        Checks.due("a right one", 12, x.lay(0));
        Checks.due("which does not repeat", -1, x.count(0, 1));
        x.row(0);
        x.entry(0, 10, 1, false);
        x.entry(0, 10, 1, false);
        Checks.due("letters of this one alone", 13, x.at(0, 0, 0, 0));
        Checks.due("and none where it has none", 10, x.at(0, 0, 1, 0));
    }

    private static void layRefused() {
        Checks.sentence("-1; -3 it has one.");
        AlignRows x = withTable();
        Checks.due("table 1", -1, x.lay(1));
        Checks.due("table -1", -1, x.lay(-1));
        x.type(0, '#', 0, 0);
        Checks.due("lay", 1, x.lay(0));
        Checks.due("it has one", -3, x.lay(0));
        Checks.due("the tape stands", 1, x.count(0, 5));
        Checks.due("the preamble stands", 1, x.count(0, 0));
    }

    private static void beginnings() {
        Checks.sentence("its PREAMBLE is: perhaps &, then TEMPLATES, each but the first with & before it,");
        lays("a#", 1, -1);
        lays("&a#", 1, 0);
        lays("a#&b#", 2, -1);
        lays("&a#&b#", 2, 0);
        isWrong("a#b#", 3);
        isWrong("a&#", 1);
        isWrong("&a&#", 2);
        isWrong("a#&b&#", 4);
    }

    private static void doubledOnce() {
        Checks.sentence("one of them perhaps with && (if the whole has not & at its beginning)");
        lays("#&&#", 2, 1);
        lays("#&&#&#", 3, 1);
        lays("#&#&&#", 3, 2);
        isWrong("&&#", 1);
        isWrong("&#&&#", 3);
        isWrong("&#&#&&#", 5);
        isWrong("#&&#&&#", 5);
        isWrong("#&&#&#&&#", 7);
        isWrong("#&&&#", 3);
        isWrong("#&a&#", 3);
        isWrong("#&&a&#", 4);
    }

    private static void repeatFrom() {
        Checks.sentence("from what is behind & at the beginning, or behind &&, on templates REPEAT.");
        for (int n = 1; n <= 12; n++) {
            for (int r = -1; r < n; r++) {
                lays(lettered(n, r), n, r);
            }
        }
    }

    /** n templates with one letter each before the mark, a, b, c and so on, which repeat from r on. */
    private static String lettered(int n, int r) {
        StringBuilder tape = new StringBuilder();
        for (int k = 0; k < n; k++) {
            tape.append(k > 0 ? "&" : "").append(k == r ? "&" : "").append((char) ('a' + k)).append('#');
        }
        return tape.toString();
    }

    private static void letters() {
        Checks.sentence("A TEMPLATE: letters a .. z, then one #, then letters, each as wide as its place from 1 to 26:"
                + " what is BEFORE and BEHIND an entry.");
        for (int place = 1; place <= 26; place++) {
            char letter = (char) ('a' + place - 1);
            AlignRows x = Checks.laid(letter + "#&#" + letter + "&#");
            x.row(0);
            x.entry(0, 0, 1, false);
            x.entry(0, 0, 1, false);
            x.entry(0, 0, 1, false);
            Checks.due(letter + " before", place, x.at(0, 0, 0, 0));
            Checks.due(letter + " behind", place, x.at(0, 0, 1, 0));
            Checks.due("no letters", 0, x.at(0, 0, 2, 0));
        }
        AlignRows y = Checks.laid("z".repeat(20) + "#" + "z".repeat(19));
        y.row(0);
        y.entry(0, 0, 1, false);
        Checks.due("39 of z", 39 * 26, y.at(0, 0, 0, 0));
        Checks.due("the alphabet", 1, Checks.laid("abcdefghijklmnopqrstuvwxyz#zyxwvutsrqpon").count(0, 0));
    }

    private static void oneMark() {
        Checks.sentence("then one #, then letters");
        isWrong("##", 1);
        isWrong("a#b#", 3);
        isWrong("#&##", 3);
        isWrong("#&a#b#", 5);
        isWrong("a", 1);
        isWrong("#&a", 3);
    }

    private static void twelveTemplates() {
        Checks.sentence("There are 12 at most.");
        lays("#&".repeat(11) + "#", 12, -1);
        lays("&" + "#&".repeat(11) + "#", 12, 0);
        lays("#&&" + "#&".repeat(10) + "#", 12, 1);
        lays("#&".repeat(11) + "&#", 12, 11);
        isWrong("#&".repeat(12) + "#", 23);
        isWrong("&" + "#&".repeat(12) + "#", 24);
        isWrong("#&&" + "#&".repeat(11) + "#", 24);
    }

    private static void firstWrongCharacter() {
        Checks.sentence("THE WRONG PLACE is that of the first character that cannot stand there");
        isWrong("##&&&&", 1);
        isWrong("&&##", 1);
        isWrong("a&#&b#c#", 1);
        isWrong("#&#&#&##&&&#", 7);
        isWrong("#a#", 2);
    }

    private static void thirteenthTemplate() {
        Checks.sentence("(also the & before a thirteenth one)");
        isWrong("#&".repeat(12), 23);
        isWrong("#&".repeat(12) + "&#", 23);
        isWrong("#&".repeat(12) + "##", 23);
        isWrong("#&".repeat(11) + "#abc&#", 26);
        isWrong("#&&" + "#&".repeat(11), 24);
    }

    private static void endsTooSoon() {
        Checks.sentence("the length, if it ends too soon.");
        isWrong("", 0);
        isWrong("&", 1);
        isWrong("a", 1);
        isWrong("&z", 2);
        isWrong("#&", 2);
        isWrong("#&&", 3);
        isWrong("#&&z", 4);
        isWrong("&#&", 3);
        isWrong("#&".repeat(11), 22);
    }

    private static void everyShortTape() {
        Checks.sentence("THE WRONG PLACE is that of the first character that cannot stand there");
        for (int length = 0; length <= 7; length++) {
            int all = 1;
            for (int i = 0; i < length; i++) {
                all *= 3;
            }
            for (int number = 0; number < all; number++) {
                StringBuilder tape = new StringBuilder();
                for (int i = 0, rest = number; i < length; i++, rest /= 3) {
                    tape.append("a#&".charAt(rest % 3));
                }
                shortTape(tape.toString());
            }
        }
    }

    private static void shortTape(String tape) {
        AlignRows x = withTable();
        Checks.typeText(x, 0, tape);
        int wrong = ModelTest.wrongPlace(tape);
        long marks = tape.chars().filter(sign -> sign == '#').count();
        Checks.due("lay of " + tape, wrong < 0 ? marks : -10 - wrong, x.lay(0));
    }

    private static void columnsAre(int n, int r, int columns) {
        AlignRows x = Checks.laid(lettered(n, r));
        x.row(0);
        int template = 0;
        for (int c = 0; c < columns; c++) {
            Checks.due("column " + c + " of " + n + " from " + r, c, x.entry(0, 100, 1, false));
            Checks.due("the template of column " + c, 101 + template, x.at(0, 0, c, 0));
            template = template + 1 == n ? r : template + 1;
        }
        Checks.due("column " + columns + " of " + n + " from " + r, -1, x.entry(0, 100, 1, false));
        Checks.due("entries", columns, x.end(0));
    }

    private static void repeatedColumns() {
        Checks.sentence("COLUMNS 0, 1, .. are as the templates; if these repeat from r on, of n, column c, from n on,"
                + " is as r + (c - r) modulo (n - r), up to 24 columns.");
        for (int n = 1; n <= 12; n++) {
            for (int r = 0; r < n; r++) {
                columnsAre(n, r, 24);
            }
        }
    }

    private static void columnsWithoutRepeating() {
        Checks.sentence("Otherwise there are n.");
        for (int n = 1; n <= 12; n++) {
            columnsAre(n, -1, n);
        }
    }
}
