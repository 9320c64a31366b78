/** Objects made alike, and what they tell: of two that tell the same, a refused call has changed neither. */
final class Twins {
    static final int NEW = 0;
    static final int TABLE = 1;
    static final int TYPED = 2;
    static final int LAID = 3;
    static final int RAN = 4;
    static final int OPEN = 5;
    static final int FULL = 6;
    static final int STATES = 7;
    private static final long NOTHING = Long.MIN_VALUE;

    private Twins() {
    }

    static AlignRows made(int state) {
        AlignRows x = new AlignRows();
        if (state == FULL) {
            full(x);
            return x;
        }
        if (state >= TABLE) {
            x.table();
        }
        if (state >= TYPED) {
            Checks.typeText(x, 0, "a#b&" + "c".repeat(26));
        }
        if (state >= LAID) {
            lay(x);
        }
        if (state >= RAN) {
            run(x);
        }
        if (state >= OPEN) {
            open(x);
        }
        return x;
    }

    /** A row with one column left. */
    private static void open(AlignRows x) {
        x.glue(0, 1, 40, 50, 0);
        x.row(0);
        x.entry(0, 33, 2, false);
        x.entry(0, 500, 8, true);
        x.entry(0, 600, 8, false);
        x.entry(0, 5, 5, true);
    }

    private static void lay(AlignRows x) {
        Checks.typeText(x, 0, "#&&d#e");
        x.lay(0);
        for (int k = 0; k <= 3; k++) {
            x.glue(0, k, 3 * k - 2, 5 + k, k % 2);
            x.shrink(0, k, 4 - k, 1 + k % 2);
        }
    }

    /** Table 1 was run, table 2 is new. */
    private static void run(AlignRows x) {
        x.between(0);
        Checks.plainRow(x, 10, 1, 20, 2, 15, 1);
        Checks.plainRow(x, 60, 3);
        x.between(0);
        x.table();
        Checks.typeText(x, 1, "&#");
        x.lay(1);
        x.row(1);
        x.entry(1, 50, 1, true);
        x.end(1);
        x.run(1, 0, 0);
        x.table();
        x.run(0, 2, 17);
    }

    /** Table 0 has a preamble of 40 characters, 20 rows and 20 between; table 1 a tape of 40. */
    private static void full(AlignRows x) {
        for (int t = 0; t < 6; t++) {
            x.table();
        }
        Checks.typeText(x, 0, "a".repeat(20) + "#" + "b".repeat(19));
        x.lay(0);
        x.glue(0, 1, 7, 8, 1);
        for (int r = 0; r < 20; r++) {
            x.row(0);
            if (r < 2) {
                x.entry(0, 10 + r, 1, r == 0);
            }
            x.end(0);
            x.between(0);
        }
        x.run(0, 2, 9);
        Checks.typeText(x, 1, "c".repeat(40));
    }

    /** What it tells now, and what it does with more calls: glues and letters show only in these. */
    static String goOn(AlignRows x) {
        StringBuilder told = new StringBuilder();
        tellAll(x, told);
        told.append("\ntable ").append(x.table());
        told.append(" type ").append(x.type(0, '#', 0, 0));
        told.append(" lay ").append(x.lay(0));
        told.append(" end ").append(x.end(0));
        told.append(" row ").append(x.row(0));
        for (int i = 0; i < 3; i++) {
            told.append(" entry ").append(x.entry(0, 7, 1, false));
        }
        told.append(" end ").append(x.end(0));
        told.append(" between ").append(x.between(0));
        int[] mores = {0, 100, -100};
        for (int more : mores) {
            told.append("\nrun ").append(x.run(0, 2, more));
            for (int c = 0; c < 4; c++) {
                told.append(' ').append(x.width(0, c));
                tell(told, ask(x, 2, 0, c, 0, 0));
            }
            tell(told, ask(x, 0, 0, 10, 0, 0));
            tell(told, ask(x, 0, 0, 11, 0, 0));
        }
        tellAll(x, told);
        return told.toString();
    }

    private static boolean tell(StringBuilder told, long answer) {
        if (answer != NOTHING) {
            told.append(' ').append(answer);
        }
        return answer != NOTHING;
    }

    /** Kind 0 is count, 1 item, 2 place, 3 at. */
    private static long ask(AlignRows x, int kind, int t, int a, int b, int c) {
        try {
            switch (kind) {
                case 0:
                    return x.count(t, a);
                case 1:
                    return x.item(t, a);
                case 2:
                    return x.place(t, a);
                default:
                    return x.at(t, a, b, c);
            }
        } catch (ArrayIndexOutOfBoundsException e) {
            return NOTHING;
        }
    }

    private static void tellAll(AlignRows x, StringBuilder told) {
        for (int t = 0; t < 6 && ask(x, 0, t, 0, 0, 0) != NOTHING; t++) {
            told.append("\ntable ").append(t).append(':');
            for (int what = 1; what < 12; what++) {
                tell(told, ask(x, 0, t, what, 0, 0));
            }
            told.append("; items");
            int items = 0;
            while (tell(told, ask(x, 1, t, items, 0, 0))) {
                items++;
            }
            tellRows(x, t, told);
            told.append("; columns");
            int columns = 0;
            while (tell(told, ask(x, 2, t, columns, 0, 0))) {
                told.append(x.isVoid(t, columns) ? " void" : " wide ").append(x.width(t, columns));
                columns++;
            }
        }
    }

    private static void tellRows(AlignRows x, int t, StringBuilder told) {
        long rows = ask(x, 0, t, 2, 0, 0);
        for (int r = 0; r < rows; r++) {
            told.append("; row");
            int entries = 0;
            while (tell(told, ask(x, 3, t, r, entries, 0))) {
                for (int what = 1; what < 5; what++) {
                    tell(told, ask(x, 3, t, r, entries, what));
                }
                entries++;
            }
        }
    }
}
