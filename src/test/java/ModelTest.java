import java.math.BigInteger;
import java.util.ArrayList;
import java.util.List;
import java.util.Random;
import java.util.regex.Matcher;
import java.util.regex.Pattern;

/** Many runs of calls by chance (always the same ones), against a second and slower telling of the document. */
public final class ModelTest {
    private static final int SEEDS = 15000;
    private static final int LAST_CALL = 512;
    private static final String TEMPLATE = "[a-z]*#[a-z]*";
    private static final Pattern PREAMBLE = Pattern.compile(preamblePattern());

    private static final class Glue {
        int width, stretch, stretchOrder, shrink, shrinkOrder;
    }

    private static final class Entry {
        int width, first, span;
    }

    private static final class Need {
        long need;
        int from, to;
    }

    private static final class Table {
        String tape = "";
        boolean laid, open;
        int repeat = -1;
        String[] templates = {};
        final List<Glue> glues = new ArrayList<>();
        final List<List<Entry>> rows = new ArrayList<>();
        final List<Integer> items = new ArrayList<>();
        int betweens, runs, order = -1;
        long natural, excess, missing;
        long[] widths = {}, places = {};
        boolean[] voids = {};
    }

    private final List<Table> tables = new ArrayList<>();
    private final AlignRows real = new AlignRows();
    private final Random chance;
    private final String title;
    private int calls = 0;

    private ModelTest(int seed) {
        chance = new Random(seed);
        title = "seed " + seed + ": ";
    }

    public static void main(String[] args) {
        for (int seed = 0; seed < SEEDS; seed++) {
            new ModelTest(seed).play();
        }
        Checks.finish();
    }

    /** What is answered behind the last call that the document speaks of is free, so it is not compared. */
    private void due(String call, long want, long got) {
        calls++;
        if (calls <= LAST_CALL) {
            Checks.due(title + call, want, got);
        }
    }

    private void refuses(String call, Checks.Call made) {
        calls++;
        if (calls <= LAST_CALL) {
            Checks.refuses(title + call, made);
        }
    }

    private static String preamblePattern() {
        StringBuilder all = new StringBuilder("&?" + TEMPLATE + "(&" + TEMPLATE + "){0,11}");
        for (int before = 1; before < 12; before++) {
            all.append("|" + TEMPLATE + "(&" + TEMPLATE + "){" + (before - 1) + "}&&" + TEMPLATE
                    + "(&" + TEMPLATE + "){0," + (11 - before) + "}");
        }
        return all.toString();
    }

    private Table table(int number) {
        return number < 0 || number >= tables.size() ? null : tables.get(number);
    }

    private int below(int bound) {
        return chance.nextInt(bound);
    }

    private int mostly(int bound) {
        return below(30) == 0 ? below(60) - 20 : below(bound);
    }

    private int edge(int least, int greatest) {
        int[] edges = {least, greatest, least - 1, greatest + 1, 0};
        return below(25) == 0 ? edges[below(5)] : least + below(greatest - least + 1);
    }

    private void play() {
        int tableCount = 1 + below(3);
        for (int i = 0; i < tableCount; i++) {
            tables.add(new Table());
            due("table", i, real.table());
        }
        int steps = 40 + below(300);
        while (calls < steps) {
            step();
        }
        for (int t = -1; t <= tables.size() && calls < LAST_CALL; t++) {
            look(t);
        }
    }

    private void step() {
        int t = mostly(tables.size());
        Table table = table(t);
        if (table != null && !table.laid && below(10) != 0) {
            layOne(t);
            return;
        }
        int kind = below(24);
        if (kind < 9 && table != null && !table.open && below(3) != 0) {
            kind = 9;
        }
        if (kind < 9) {
            entry(t);
        } else if (kind < 12) {
            due("row", row(table), real.row(t));
        } else if (kind < 14) {
            due("end", end(table), real.end(t));
        } else if (kind < 17) {
            run(t);
        } else if (kind == 17) {
            due("between", between(table), real.between(t));
        } else if (kind < 20) {
            glue(t);
        } else if (kind < 22) {
            shrink(t);
        } else {
            nest(t);
        }
    }

    private void layOne(int t) {
        if (below(3) == 0) {
            due("lay", lay(table(t)), real.lay(t));
            return;
        }
        StringBuilder signs = new StringBuilder();
        int length = below(13);
        for (int i = 0; i < length; i++) {
            signs.append("#&#&#&#&abz".charAt(below(11)));
        }
        if (below(2) == 0) {
            signs.setLength(0);
            signs.append(new String[] {"#&&#", "&#a&b#", "#&#&#", "a#b&c#d", "#c&&#&d#", "&"}[below(6)]);
        }
        if (below(20) == 0) {
            signs.setLength(Math.min(signs.length(), 11));
            signs.append("A`{!@\u0080\u00ff".charAt(below(7)));
        }
        String text = signs.toString();
        due("type " + text, type(table(t), text),
                real.type(t, Checks.pack(text, 0), Checks.pack(text, 4), Checks.pack(text, 8)));
    }

    private static int type(Table table, String text) {
        if (!text.matches("[a-z#&]*")) {
            return -2;
        }
        if (table.laid) {
            return -3;
        }
        if (table.tape.length() + text.length() > 40) {
            return -4;
        }
        table.tape += text;
        return table.tape.length();
    }

    private static int lay(Table table) {
        if (table.laid) {
            return -3;
        }
        String tape = table.tape;
        int wrong = wrongPlace(tape);
        if (wrong >= 0) {
            table.tape = "";
            return -10 - wrong;
        }
        table.laid = true;
        String[] halves = tape.split("&&", -1);
        if (tape.startsWith("&")) {
            table.repeat = 0;
        } else if (halves.length == 2) {
            table.repeat = halves[0].split("&").length;
        }
        table.templates = tape.replaceFirst("^&", "").split("&+");
        for (int k = 0; k <= table.templates.length; k++) {
            table.glues.add(new Glue());
        }
        return table.templates.length;
    }

    /** -1 if the tape is a preamble. */
    static int wrongPlace(String tape) {
        if (PREAMBLE.matcher(tape).matches()) {
            return -1;
        }
        int wrong = 0;
        while (wrong < tape.length() && mayGoOn(tape.substring(0, wrong + 1))) {
            wrong++;
        }
        return wrong;
    }

    private static boolean mayGoOn(String start) {
        Matcher matcher = PREAMBLE.matcher(start);
        return matcher.matches() || matcher.hitEnd();
    }

    private void glue(int t) {
        int k = mostly(4), width = edge(-20, 30), stretch = edge(0, 9), order = mostly(4);
        if (below(8) == 0) {
            width = edge(-10000, 10000);
            stretch = edge(0, 10000);
        }
        long due = refuseGlue(table(t), k);
        if (due == 1 && (Math.abs(width) > 10000 || stretch < 0 || stretch > 10000 || order < 0 || order > 3)) {
            due = -2;
        }
        if (due == 1) {
            Glue glue = table(t).glues.get(k);
            glue.width = width;
            glue.stretch = stretch;
            glue.stretchOrder = order;
        }
        due("glue", due, real.glue(t, k, width, stretch, order));
    }

    private void shrink(int t) {
        int k = mostly(4), amount = below(8) == 0 ? edge(0, 10000) : edge(0, 9), order = below(2) * mostly(4);
        long due = refuseGlue(table(t), k);
        if (due == 1 && (amount < 0 || amount > 10000 || order < 0 || order > 3)) {
            due = -2;
        }
        if (due == 1) {
            Glue glue = table(t).glues.get(k);
            glue.shrink = amount;
            glue.shrinkOrder = order;
        }
        due("shrink", due, real.shrink(t, k, amount, order));
    }

    private static long refuseGlue(Table table, int k) {
        if (table == null) {
            return -1;
        }
        if (!table.laid) {
            return -3;
        }
        return k >= 0 && k <= table.templates.length ? 1 : -1;
    }

    private static int row(Table table) {
        if (table == null) {
            return -1;
        }
        if (!table.laid || table.open) {
            return -3;
        }
        if (table.rows.size() == 20) {
            return -4;
        }
        table.open = true;
        table.items.add(table.rows.size());
        table.rows.add(new ArrayList<>());
        return table.rows.size() - 1;
    }

    private static int between(Table table) {
        if (table == null) {
            return -1;
        }
        if (!table.laid || table.open) {
            return -3;
        }
        if (table.betweens == 20) {
            return -4;
        }
        table.items.add(-1 - table.betweens);
        return ++table.betweens;
    }

    private static int end(Table table) {
        if (table == null) {
            return -1;
        }
        if (!table.open) {
            return -3;
        }
        table.open = false;
        return table.rows.get(table.rows.size() - 1).size();
    }

    private void entry(int t) {
        int w = below(4) == 0 ? edge(0, 100000) : edge(0, 60);
        int span = below(2) == 0 ? 1 : edge(1, below(3) == 0 ? 8 : 3);
        boolean plain = below(2) == 0;
        Table table = table(t);
        long due = table == null ? -1 : !table.open ? -3
                : w < 0 || w > 100000 || span < 1 || span > 8 ? -2 : put(table, w, span, plain);
        due("entry", due, real.entry(t, w, span, plain));
    }

    private void nest(int t) {
        int o = mostly(tables.size()), span = edge(1, 3);
        Table table = table(t), other = table(o);
        long due;
        if (table == null || other == null) {
            due = -1;
        } else if (!table.open || table == other || other.runs == 0
                || other.natural + other.excess < 0 || other.natural + other.excess > 100000) {
            due = -3;
        } else if (span < 1 || span > 8) {
            due = -2;
        } else {
            due = put(table, (int) (other.natural + other.excess), span, true);
        }
        due("nest", due, real.nest(t, o, span));
    }

    private static int templateOf(Table table, int column) {
        int template = column;
        while (template >= table.templates.length) {
            template -= table.templates.length - table.repeat;
        }
        return template;
    }

    private static int wide(String letters) {
        return letters.chars().map(letter -> letter - 'a' + 1).sum();
    }

    private static int put(Table table, int w, int span, boolean plain) {
        List<Entry> row = table.rows.get(table.rows.size() - 1);
        int first = row.stream().mapToInt(entry -> entry.span).sum();
        if (first + span > (table.repeat < 0 ? table.templates.length : 24)) {
            return -1;
        }
        String left = table.templates[templateOf(table, first)];
        String right = table.templates[templateOf(table, first + span - 1)];
        int text = wide(left.substring(0, left.indexOf('#'))) + wide(right.substring(right.indexOf('#') + 1));
        Entry entry = new Entry();
        entry.width = w + (plain ? 0 : text);
        entry.first = first;
        entry.span = span;
        row.add(entry);
        return first;
    }

    private void run(int t) {
        int way = mostly(3);
        int by = way == 1 ? edge(-50, 400) : edge(-40, 60);
        if (below(6) == 0) {
            by = edge(-1000000, 1000000);
        }
        Table table = table(t);
        long due;
        if (table == null) {
            due = -1;
        } else if (!table.laid || table.open) {
            due = -3;
        } else if (way < 0 || way > 2 || way > 0 && (by < -1000000 || by > 1000000)) {
            due = -2;
        } else {
            due = set(table, way, by);
        }
        due("run", due, real.run(t, way, by));
        if (table != null && below(5) != 0) {
            lookAtRun(t, table);
        } else {
            look(t);
        }
    }

    private static long set(Table table, int way, int by) {
        int columns = table.templates.length;
        List<Need> needs = new ArrayList<>();
        for (List<Entry> row : table.rows) {
            for (Entry entry : row) {
                Need need = new Need();
                need.need = entry.width;
                need.from = entry.first;
                need.to = entry.first + entry.span;
                needs.add(need);
                columns = Math.max(columns, need.to);
            }
        }
        table.widths = new long[columns];
        table.voids = new boolean[columns];
        table.places = new long[columns];
        Glue[] glues = new Glue[columns + 1];
        glues[0] = table.glues.get(0);
        table.natural = glues[0].width;
        for (int c = 0; c < columns; c++) {
            table.voids[c] = true;
            for (Need need : needs) {
                if (need.from == c && need.to == c + 1) {
                    table.voids[c] = false;
                    table.widths[c] = Math.max(table.widths[c], need.need);
                }
            }
            glues[c + 1] = table.voids[c] ? new Glue() : table.glues.get(templateOf(table, c) + 1);
            for (Need need : needs) {
                if (need.from == c && need.to > c + 1) {
                    need.from++;
                    need.need = Math.max(0, need.need - table.widths[c] - glues[c + 1].width);
                }
            }
            table.natural += table.widths[c] + glues[c + 1].width;
        }
        table.excess = way == 0 ? 0 : way == 1 ? by - table.natural : by;
        share(table, glues);
        table.runs++;
        return table.natural + table.excess;
    }

    private static void share(Table table, Glue[] glues) {
        boolean wider = table.excess > 0;
        long[] sums = new long[4];
        for (Glue glue : glues) {
            sums[wider ? glue.stretchOrder : glue.shrinkOrder] += wider ? glue.stretch : glue.shrink;
        }
        table.order = -1;
        for (int order = 0; order < 4 && table.excess != 0; order++) {
            table.order = sums[order] != 0 ? order : table.order;
        }
        long amount = Math.abs(table.excess);
        long shared = table.order < 0 ? 0 : !wider && table.order == 0 ? Math.min(amount, sums[0]) : amount;
        table.missing = amount - shared;
        long place = 0, sum = 0, before = 0;
        for (int c = 0; c < table.widths.length; c++) {
            Glue glue = glues[c];
            boolean gives = (wider ? glue.stretchOrder : glue.shrinkOrder) == table.order;
            sum += gives ? wider ? glue.stretch : glue.shrink : 0;
            long together = table.order < 0 ? 0 : BigInteger.valueOf(shared).multiply(BigInteger.valueOf(sum))
                    .divide(BigInteger.valueOf(sums[table.order])).longValueExact();
            place += glue.width + (wider ? together - before : before - together);
            before = together;
            table.places[c] = place;
            place += table.widths[c];
        }
    }

    private void look(int t) {
        Table table = table(t);
        if (table == null) {
            due("width", -1, real.width(t, 0));
            refuses("count", () -> real.count(t, 9));
            refuses("item", () -> real.item(t, 0));
            return;
        }
        int entries = table.rows.stream().mapToInt(List::size).sum();
        long[] counts = {table.templates.length, table.repeat, table.rows.size(), entries, table.open ? 1 : 0,
            table.tape.length()};
        for (int what = 0; what < counts.length; what++) {
            due("count " + what, counts[what], real.count(t, what));
        }
        for (int i = 0; i < table.items.size(); i++) {
            due("item " + i, table.items.get(i), real.item(t, i));
        }
        refuses("item", () -> real.item(t, table.items.size()));
        lookAtRun(t, table);
        lookAtEntries(t, table);
    }

    private void lookAtRun(int t, Table table) {
        long[] counts = {table.widths.length, table.natural, table.excess, table.runs, table.order, table.missing};
        for (int i = 0; i < counts.length; i++) {
            due("count " + (6 + i), counts[i], real.count(t, 6 + i));
        }
        lookAtColumns(t, table);
    }

    private void lookAtColumns(int t, Table table) {
        int columns = table.widths.length;
        for (int c = 0; c < columns; c++) {
            due("width " + c, table.widths[c], real.width(t, c));
            due("isVoid " + c, table.voids[c] ? 1 : 0, real.isVoid(t, c) ? 1 : 0);
            due("place " + c, table.places[c], real.place(t, c));
        }
        due("width of none", -1, real.width(t, columns));
        due("isVoid of none", 0, real.isVoid(t, columns) ? 1 : 0);
        refuses("place of none", () -> real.place(t, columns));
    }

    private void lookAtEntries(int t, Table table) {
        for (int r = 0; r < table.rows.size(); r++) {
            List<Entry> row = table.rows.get(r);
            int number = r;
            for (int i = 0; i < row.size(); i++) {
                Entry entry = row.get(i);
                int last = entry.first + entry.span - 1;
                boolean gone = last < table.widths.length;
                long place = gone ? table.places[entry.first] : 0;
                long end = gone ? table.places[last] + table.widths[last] : 0;
                long[] wanted = {entry.width, entry.first, entry.span, place, end - place};
                for (int what = 0; what < 5; what++) {
                    due("at " + r + ", " + i + ", " + what, wanted[what], real.at(t, r, i, what));
                }
            }
            refuses("at none", () -> real.at(t, number, row.size(), 0));
        }
        refuses("at no row", () -> real.at(t, table.rows.size(), 0, 0));
    }
}
