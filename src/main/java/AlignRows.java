import java.util.Arrays;

/** Tables of aligned columns, as ../shared/DOC.md promises. */
public final class AlignRows {
    public static final int NONE = -1;

    private static final int UNKNOWN = -1;
    private static final int OUTSIDE = -2;
    private static final int NOT_NOW = -3;
    private static final int NO_ROOM = -4;

    private static final int MAX_TABLES = 6;
    private static final int MAX_TAPE = 40;
    private static final int MAX_TEMPLATES = 12;
    private static final int MAX_COLUMNS = 24;
    private static final int MAX_ROWS = 20;
    private static final int MAX_BETWEEN = 20;
    private static final int MAX_SPAN = 8;
    private static final int MAX_ENTRY = 100000;
    private static final int MAX_GLUE = 10000;
    private static final int MAX_ORDER = 3;
    private static final int MAX_BY = 1000000;

    private static final int NATURAL = 0;
    private static final int TO_WIDTH = 1;
    private static final int NATURAL_AND = 2;

    private final Table[] tables;
    private int tableCount;

    public AlignRows() {
        tables = new Table[MAX_TABLES];
        tableCount = 0;
    }

    public int table() {
        if (tableCount >= MAX_TABLES) {
            return NO_ROOM;
        }
        tables[tableCount] = new Table();
        tableCount++;
        return tableCount - 1;
    }

    public int type(int table, int a, int b, int c) {
        Table found = find(table);
        if (found == null) {
            return UNKNOWN;
        }
        return found.preamble.append(a, b, c);
    }

    public int lay(int table) {
        Table found = find(table);
        if (found == null) {
            return UNKNOWN;
        }
        return found.preamble.readTape();
    }

    public int glue(int table, int k, int width, int stretch, int order) {
        Table found = find(table);
        if (found == null) {
            return UNKNOWN;
        }
        int refusal = found.refuseGlue(k);
        if (refusal != 0) {
            return refusal;
        }
        if (!isIn(width, -MAX_GLUE, MAX_GLUE) || !isIn(stretch, 0, MAX_GLUE) || !isIn(order, 0, MAX_ORDER)) {
            return OUTSIDE;
        }
        found.glues[k].setStretch(width, stretch, order);
        return 1;
    }

    public int shrink(int table, int k, int amount, int order) {
        Table found = find(table);
        if (found == null) {
            return UNKNOWN;
        }
        int refusal = found.refuseGlue(k);
        if (refusal != 0) {
            return refusal;
        }
        if (!isIn(amount, 0, MAX_GLUE) || !isIn(order, 0, MAX_ORDER)) {
            return OUTSIDE;
        }
        found.glues[k].setShrink(amount, order);
        return 1;
    }

    public int row(int table) {
        Table found = find(table);
        if (found == null) {
            return UNKNOWN;
        }
        return found.openRow();
    }

    public int entry(int table, int w, int span, boolean plain) {
        Table found = find(table);
        if (found == null) {
            return UNKNOWN;
        }
        if (!found.open) {
            return NOT_NOW;
        }
        if (!isIn(w, 0, MAX_ENTRY)) {
            return OUTSIDE;
        }
        return found.addEntry(w, span, plain);
    }

    public int nest(int table, int other, int span) {
        Table found = find(table);
        Table inner = find(other);
        if (found == null || inner == null) {
            return UNKNOWN;
        }
        if (!found.open || table == other || !inner.lastRun.isNestable()) {
            return NOT_NOW;
        }
        return found.addEntry((int) inner.lastRun.setWidth(), span, true);
    }

    public int end(int table) {
        Table found = find(table);
        if (found == null) {
            return UNKNOWN;
        }
        return found.closeRow();
    }

    public int between(int table) {
        Table found = find(table);
        if (found == null) {
            return UNKNOWN;
        }
        return found.addBetween();
    }

    public long run(int table, int way, int by) {
        Table found = find(table);
        if (found == null) {
            return UNKNOWN;
        }
        if (!found.isAtRest()) {
            return NOT_NOW;
        }
        if (!isIn(way, NATURAL, NATURAL_AND) || way != NATURAL && !isIn(by, -MAX_BY, MAX_BY)) {
            return OUTSIDE;
        }
        return found.lastRun.setTable(found, way, by);
    }

    public int width(int table, int column) {
        Table found = find(table);
        if (found == null || !found.lastRun.hasColumn(column)) {
            return UNKNOWN;
        }
        return found.lastRun.widths[column];
    }

    public boolean isVoid(int table, int column) {
        Table found = find(table);
        return found != null && found.lastRun.hasColumn(column) && found.lastRun.voids[column];
    }

    public long place(int table, int column) throws ArrayIndexOutOfBoundsException {
        Table found = find(table);
        if (found == null || !found.lastRun.hasColumn(column)) {
            throw new ArrayIndexOutOfBoundsException();
        }
        return found.lastRun.places[column];
    }

    public long at(int table, int row, int i, int what) throws ArrayIndexOutOfBoundsException {
        Table found = find(table);
        if (found == null || !found.hasEntry(row, i)) {
            throw new ArrayIndexOutOfBoundsException();
        }
        Row entries = found.rows[row];
        switch (what) {
            case 0:
                return entries.widths[i];
            case 1:
                return entries.firsts[i];
            case 2:
                return entries.spans[i];
            case 3:
                return found.lastRun.boxPlace(entries.firsts[i], entries.spans[i]);
            case 4:
                return found.lastRun.boxWidth(entries.firsts[i], entries.spans[i]);
            default:
                throw new ArrayIndexOutOfBoundsException();
        }
    }

    public int item(int table, int i) throws ArrayIndexOutOfBoundsException {
        Table found = find(table);
        if (found == null || !isIn(i, 0, found.itemCount - 1)) {
            throw new ArrayIndexOutOfBoundsException();
        }
        return found.items[i];
    }

    public long count(int table, int what) throws ArrayIndexOutOfBoundsException {
        Table found = find(table);
        if (found == null || !isIn(what, 0, 11)) {
            throw new ArrayIndexOutOfBoundsException();
        }
        return what < 6 ? found.tell(what) : found.lastRun.tell(what);
    }

    private Table find(int number) {
        return isIn(number, 0, tableCount - 1) ? tables[number] : null;
    }

    private static boolean isIn(int number, int least, int greatest) {
        return number >= least && number <= greatest;
    }

    /** The tape of a table, and the templates that were read from it. */
    private static final class Preamble {
        private final char[] tape = new char[MAX_TAPE];
        private final int[] before = new int[MAX_TEMPLATES];
        private final int[] behind = new int[MAX_TEMPLATES];
        private int length = 0;
        private boolean laid = false;
        private int templates = 0;
        private int repeatFrom = NONE;
        private boolean marked = false;

        int append(int a, int b, int c) {
            if (!hasOnlySigns(a) || !hasOnlySigns(b) || !hasOnlySigns(c)) {
                return OUTSIDE;
            }
            if (laid) {
                return NOT_NOW;
            }
            if (length + signsOf(a) + signsOf(b) + signsOf(c) > MAX_TAPE) {
                return NO_ROOM;
            }
            putSigns(a);
            putSigns(b);
            putSigns(c);
            return length;
        }

        private static int byteOf(int packed, int shift) {
            return packed >>> shift & 255;
        }

        private static boolean hasOnlySigns(int packed) {
            for (int shift = 24; shift >= 0; shift -= 8) {
                int sign = byteOf(packed, shift);
                if (sign != 0 && sign != '#' && sign != '&' && !isIn(sign, 'a', 'z')) {
                    return false;
                }
            }
            return true;
        }

        private static int signsOf(int packed) {
            int signs = 0;
            for (int shift = 24; shift >= 0; shift -= 8) {
                if (byteOf(packed, shift) != 0) {
                    signs++;
                }
            }
            return signs;
        }

        private void putSigns(int packed) {
            for (int shift = 24; shift >= 0; shift -= 8) {
                int sign = byteOf(packed, shift);
                if (sign != 0 && length < MAX_TAPE) {
                    tape[length] = (char) sign;
                    length++;
                }
            }
        }

        /** Answers how many templates there are, or -10 less the wrong place. */
        int readTape() {
            if (laid) {
                return NOT_NOW;
            }
            int wrong = findWrongPlace();
            if (wrong == NONE) {
                laid = true;
                return templates;
            }
            length = 0;
            templates = 0;
            repeatFrom = NONE;
            return -10 - wrong;
        }

        private int findWrongPlace() {
            Arrays.fill(before, 0);
            Arrays.fill(behind, 0);
            templates = 1;
            marked = false;
            for (int i = 0; i < length; i++) {
                if (!takeSign(i)) {
                    return i;
                }
            }
            return marked ? NONE : length;
        }

        private boolean takeSign(int i) {
            char sign = tape[i];
            if (sign == '#') {
                boolean first = !marked;
                marked = true;
                return first;
            }
            if (sign == '&') {
                return marked ? beginTemplate() : beginRepeat(i);
            }
            int[] side = marked ? behind : before;
            side[templates - 1] += sign - 'a' + 1;
            return true;
        }

        private boolean beginTemplate() {
            if (templates >= MAX_TEMPLATES) {
                return false;
            }
            templates++;
            marked = false;
            return true;
        }

        /** An & in front of a template's # is right only to begin the repeating, at once. */
        private boolean beginRepeat(int i) {
            if (repeatFrom != NONE || i > 0 && tape[i - 1] != '&') {
                return false;
            }
            repeatFrom = templates - 1;
            return true;
        }

        int columnLimit() {
            return repeatFrom == NONE ? templates : MAX_COLUMNS;
        }

        int templateOf(int column) {
            int period = templates - repeatFrom;
            if (column < templates || repeatFrom == NONE || period <= 0) {
                return column;
            }
            return repeatFrom + (column - repeatFrom) % period;
        }

        int textOf(int first, int last) {
            return before[templateOf(first)] + behind[templateOf(last)];
        }
    }

    private static final class Glue {
        private int width = 0;
        private int stretch = 0;
        private int stretchOrder = 0;
        private int shrink = 0;
        private int shrinkOrder = 0;

        void setStretch(int newWidth, int amount, int order) {
            width = newWidth;
            stretch = amount;
            stretchOrder = order;
        }

        void setShrink(int amount, int order) {
            shrink = amount;
            shrinkOrder = order;
        }
    }

    /** The entries of a row, from column 0 on. */
    private static final class Row {
        private final int[] widths = new int[MAX_COLUMNS];
        private final int[] firsts = new int[MAX_COLUMNS];
        private final int[] spans = new int[MAX_COLUMNS];
        private int entries = 0;
        private int columns = 0;

        void append(int width, int span) {
            widths[entries] = width;
            firsts[entries] = columns;
            spans[entries] = span;
            entries++;
            columns += span;
        }
    }

    private static final class Table {
        private final Preamble preamble = new Preamble();
        private final Glue[] glues = new Glue[MAX_TEMPLATES + 1];
        private final Row[] rows = new Row[MAX_ROWS];
        private final int[] items = new int[MAX_ROWS + MAX_BETWEEN];
        private final LastRun lastRun = new LastRun();
        private int rowCount = 0;
        private int betweenCount = 0;
        private int itemCount = 0;
        private boolean open = false;

        Table() {
            for (int i = 0; i < glues.length; i++) {
                glues[i] = new Glue();
            }
            for (int i = 0; i < rows.length; i++) {
                rows[i] = new Row();
            }
        }

        boolean isAtRest() {
            return preamble.laid && !open;
        }

        /** Answers 0 if there is that glue, or else why a call for it is refused. */
        int refuseGlue(int k) {
            if (!preamble.laid) {
                return NOT_NOW;
            }
            return isIn(k, 0, preamble.templates) ? 0 : UNKNOWN;
        }

        int openRow() {
            if (!isAtRest()) {
                return NOT_NOW;
            }
            if (rowCount >= MAX_ROWS) {
                return NO_ROOM;
            }
            open = true;
            rowCount++;
            putItem(rowCount - 1);
            return rowCount - 1;
        }

        int addBetween() {
            if (!isAtRest()) {
                return NOT_NOW;
            }
            if (betweenCount >= MAX_BETWEEN) {
                return NO_ROOM;
            }
            putItem(-1 - betweenCount);
            betweenCount++;
            return betweenCount;
        }

        private void putItem(int item) {
            items[itemCount] = item;
            itemCount++;
        }

        int closeRow() {
            if (!open) {
                return NOT_NOW;
            }
            open = false;
            return rows[rowCount - 1].entries;
        }

        /** Asks for an open row, and answers the new entry's first column. */
        int addEntry(int width, int span, boolean plain) {
            if (!isIn(span, 1, MAX_SPAN)) {
                return OUTSIDE;
            }
            Row row = rows[rowCount - 1];
            int first = row.columns;
            int last = first + span - 1;
            if (last >= preamble.columnLimit()) {
                return UNKNOWN;
            }
            row.append(plain ? width : width + preamble.textOf(first, last), span);
            return first;
        }

        boolean hasEntry(int row, int i) {
            return isIn(row, 0, rowCount - 1) && isIn(i, 0, rows[row].entries - 1);
        }

        int entriesOfAll() {
            int sum = 0;
            for (int i = 0; i < rowCount; i++) {
                sum += rows[i].entries;
            }
            return sum;
        }

        /** Column 0 has glue 0 before it; glue i of the table, from 1 on, is behind column i - 1. */
        Glue glueAt(int i) {
            return i == 0 ? glues[0] : glues[preamble.templateOf(i - 1) + 1];
        }

        long tell(int what) {
            switch (what) {
                case 0:
                    return preamble.templates;
                case 1:
                    return preamble.repeatFrom;
                case 2:
                    return rowCount;
                case 3:
                    return entriesOfAll();
                case 4:
                    return open ? 1 : 0;
                default:
                    return preamble.length;
            }
        }
    }

    /** The greatest needs over each run of columns that an entry may have. */
    private static final class Needs {
        private final int[][] greatest = new int[MAX_COLUMNS][MAX_SPAN + 1];

        void clear() {
            for (int i = 0; i < MAX_COLUMNS; i++) {
                Arrays.fill(greatest[i], NONE);
            }
        }

        void add(int first, int span, int need) {
            greatest[first][span] = Math.max(greatest[first][span], need);
        }

        /** NONE if there is none. */
        int over(int column) {
            return greatest[column][1];
        }

        void moveOn(int column, int less) {
            for (int span = 2; span <= MAX_SPAN; span++) {
                int need = greatest[column][span];
                if (need != NONE && column + 1 < MAX_COLUMNS) {
                    add(column + 1, span - 1, Math.max(0, need - less));
                }
            }
        }
    }

    /** What the last run of a table found; later changes of the table leave it as it is. */
    private static final class LastRun {
        private final int[] widths = new int[MAX_COLUMNS];
        private final boolean[] voids = new boolean[MAX_COLUMNS];
        private final long[] places = new long[MAX_COLUMNS];
        private final int[] glueWidths = new int[MAX_COLUMNS + 1];
        private final int[] gives = new int[MAX_COLUMNS + 1];
        private final int[] giveOrders = new int[MAX_COLUMNS + 1];
        private final Needs needs = new Needs();
        private int runs = 0;
        private int columns = 0;
        private long natural = 0;
        private long excess = 0;
        private int order = NONE;
        private long missing = 0;

        long setTable(Table table, int way, int by) {
            gatherNeeds(table);
            findWidths(table);
            natural = naturalWidth();
            excess = way == NATURAL ? 0 : way == TO_WIDTH ? by - natural : by;
            gatherGives(table);
            order = greatestOrder();
            share();
            runs++;
            return setWidth();
        }

        private void gatherNeeds(Table table) {
            needs.clear();
            columns = table.preamble.templates;
            for (int r = 0; r < table.rowCount; r++) {
                Row row = table.rows[r];
                columns = Math.max(columns, row.columns);
                for (int i = 0; i < row.entries; i++) {
                    needs.add(row.firsts[i], row.spans[i], row.widths[i]);
                }
            }
        }

        private void findWidths(Table table) {
            glueWidths[0] = table.glueAt(0).width;
            for (int c = 0; c < columns; c++) {
                int need = needs.over(c);
                voids[c] = need == NONE;
                widths[c] = voids[c] ? 0 : need;
                glueWidths[c + 1] = voids[c] ? 0 : table.glueAt(c + 1).width;
                needs.moveOn(c, widths[c] + glueWidths[c + 1]);
            }
        }

        private long naturalWidth() {
            long sum = glueWidths[0];
            for (int c = 0; c < columns; c++) {
                sum += widths[c] + glueWidths[c + 1];
            }
            return sum;
        }

        /** What each glue can give to the excess, by its sign: its stretch or its shrink. */
        private void gatherGives(Table table) {
            for (int i = 0; i <= columns; i++) {
                Glue glue = table.glueAt(i);
                boolean none = i > 0 && voids[i - 1];
                gives[i] = none ? 0 : excess > 0 ? glue.stretch : glue.shrink;
                giveOrders[i] = excess > 0 ? glue.stretchOrder : glue.shrinkOrder;
            }
        }

        private int greatestOrder() {
            int greatest = NONE;
            for (int i = 0; i <= columns && excess != 0; i++) {
                if (gives[i] != 0) {
                    greatest = Math.max(greatest, giveOrders[i]);
                }
            }
            return greatest;
        }

        private long wholeSum() {
            long sum = 0;
            for (int i = 0; i <= columns; i++) {
                sum += giveOf(i);
            }
            return sum;
        }

        private long giveOf(int i) {
            return giveOrders[i] == order ? gives[i] : 0;
        }

        private void share() {
            long whole = wholeSum();
            long amount = Math.abs(excess);
            long shared = amount;
            if (order == NONE) {
                shared = 0;
            } else if (order == 0 && excess < 0) {
                shared = Math.min(amount, whole);
            }
            missing = amount - shared;
            findPlaces(shared, whole);
        }

        private void findPlaces(long shared, long whole) {
            long plainPlace = 0;
            long sum = 0;
            for (int c = 0; c < columns; c++) {
                plainPlace += glueWidths[c];
                sum += giveOf(c);
                long moved = whole == 0 ? 0 : shared * sum / whole;
                places[c] = excess < 0 ? plainPlace - moved : plainPlace + moved;
                plainPlace += widths[c];
            }
        }

        long setWidth() {
            return natural + excess;
        }

        boolean isNestable() {
            return runs > 0 && setWidth() >= 0 && setWidth() <= MAX_ENTRY;
        }

        boolean hasColumn(int column) {
            return isIn(column, 0, columns - 1);
        }

        long boxPlace(int first, int span) {
            return hasColumn(first + span - 1) ? places[first] : 0;
        }

        long boxWidth(int first, int span) {
            int last = first + span - 1;
            return hasColumn(last) ? places[last] + widths[last] - places[first] : 0;
        }

        long tell(int what) {
            switch (what) {
                case 6:
                    return columns;
                case 7:
                    return natural;
                case 8:
                    return excess;
                case 9:
                    return runs;
                case 10:
                    return order;
                default:
                    return missing;
            }
        }
    }
}
