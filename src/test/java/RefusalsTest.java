/** Refused calls: that they change nothing, and which answer comes first where more than one fits. */
public final class RefusalsTest {
    private interface Call {
        long on(AlignRows x);
    }

    public static void main(String[] args) {
        Checks.sentence("REFUSALS change nothing and answer, the first that fits");
        withoutTables();
        withATable();
        withATape();
        withAPreamble();
        withRuns();
        withAnOpenRow();
        withoutRoom();
        thrown();
        Checks.sentence("the first that fits (but where a call tells another order): -1 an unknown number,"
                + " -2 outside a range, -3 not in this state, -4 no room.");
        unknownFirst();
        rangeBeforeState();
        stateBeforeRange();
        stateBeforeRoom();
        Checks.finish();
    }

    private static void refused(int state, String name, long due, Call call) {
        AlignRows asked = Twins.made(state);
        Checks.due(name + " in state " + state, due, call.on(asked));
        Checks.same("after " + name + " in state " + state, Twins.goOn(Twins.made(state)), Twins.goOn(asked));
    }

    private static void unknownTables(int state, int none) {
        refused(state, "type", -1, x -> x.type(none, 'a', 0, 0));
        refused(state, "lay", -1, x -> x.lay(none));
        refused(state, "glue", -1, x -> x.glue(none, 1, 5, 6, 3));
        refused(state, "shrink", -1, x -> x.shrink(none, 1, 5, 3));
        refused(state, "row", -1, x -> x.row(none));
        refused(state, "entry", -1, x -> x.entry(none, 5, 1, true));
        refused(state, "nest", -1, x -> x.nest(none, 1, 1));
        refused(state, "nest of none", -1, x -> x.nest(0, none, 1));
        refused(state, "end", -1, x -> x.end(none));
        refused(state, "between", -1, x -> x.between(none));
        refused(state, "run", -1, x -> x.run(none, 2, 5));
        refused(state, "width", -1, x -> x.width(none, 0));
    }

    private static void withoutTables() {
        unknownTables(Twins.NEW, 0);
        unknownTables(Twins.NEW, -1);
    }

    private static void withATable() {
        unknownTables(Twins.TABLE, 1);
        withoutAPreamble(Twins.TABLE);
    }

    private static void withoutAPreamble(int state) {
        refused(state, "type of A", -2, x -> x.type(0, 'a', '#', 'A'));
        refused(state, "glue", -3, x -> x.glue(0, 1, 5, 6, 3));
        refused(state, "shrink", -3, x -> x.shrink(0, 1, 5, 3));
        refused(state, "row", -3, x -> x.row(0));
        refused(state, "entry", -3, x -> x.entry(0, 5, 1, true));
        refused(state, "nest", -3, x -> x.nest(0, 0, 1));
        refused(state, "end", -3, x -> x.end(0));
        refused(state, "between", -3, x -> x.between(0));
        refused(state, "run", -3, x -> x.run(0, 2, 5));
        refused(state, "width", -1, x -> x.width(0, 0));
    }

    private static void withATape() {
        unknownTables(Twins.TYPED, 1);
        withoutAPreamble(Twins.TYPED);
        refused(Twins.TYPED, "type of 11", -4,
                x -> x.type(0, Checks.pack("abcd", 0), Checks.pack("#&#&", 0), Checks.pack("abc", 0)));
    }

    private static void withAPreamble() {
        unknownTables(Twins.LAID, 1);
        atRest(Twins.LAID);
    }

    private static void withRuns() {
        unknownTables(Twins.RAN, 3);
        atRest(Twins.RAN);
        refused(Twins.RAN, "nest in no row", -3, x -> x.nest(0, 1, 1));
    }

    private static void atRest(int state) {
        preambleStands(state);
        refused(state, "entry", -3, x -> x.entry(0, 5, 1, true));
        refused(state, "end", -3, x -> x.end(0));
        refused(state, "nest", -3, x -> x.nest(0, 0, 1));
        refused(state, "run, way -1", -2, x -> x.run(0, -1, 5));
        refused(state, "run, way 3", -2, x -> x.run(0, 3, 5));
        for (int way = 1; way <= 2; way++) {
            int asked = way;
            refused(state, "run too narrow", -2, x -> x.run(0, asked, -1000001));
            refused(state, "run too wide", -2, x -> x.run(0, asked, 1000001));
        }
    }

    private static void preambleStands(int state) {
        refused(state, "type", -3, x -> x.type(0, 'a', '#', '&'));
        refused(state, "type of nothing", -3, x -> x.type(0, 0, 0, 0));
        refused(state, "type of A", -2, x -> x.type(0, 'a', '#', 'A'));
        refused(state, "lay", -3, x -> x.lay(0));
        refused(state, "glue -1", -1, x -> x.glue(0, -1, 5, 6, 3));
        refused(state, "glue 4", -1, x -> x.glue(0, 4, 5, 6, 3));
        for (int k = 0; k <= 3; k++) {
            int number = k;
            refused(state, "glue " + k + ", width below", -2, x -> x.glue(0, number, -10001, 60, 3));
            refused(state, "glue " + k + ", width above", -2, x -> x.glue(0, number, 10001, 60, 3));
            refused(state, "glue " + k + ", stretch below", -2, x -> x.glue(0, number, 50, -1, 3));
            refused(state, "glue " + k + ", stretch above", -2, x -> x.glue(0, number, 50, 10001, 3));
            refused(state, "glue " + k + ", order below", -2, x -> x.glue(0, number, 50, 60, -1));
            refused(state, "glue " + k + ", order above", -2, x -> x.glue(0, number, 50, 60, 4));
            refused(state, "shrink " + k + ", amount below", -2, x -> x.shrink(0, number, -1, 3));
            refused(state, "shrink " + k + ", amount above", -2, x -> x.shrink(0, number, 10001, 3));
            refused(state, "shrink " + k + ", order below", -2, x -> x.shrink(0, number, 60, -1));
            refused(state, "shrink " + k + ", order above", -2, x -> x.shrink(0, number, 60, 4));
        }
        refused(state, "shrink -1", -1, x -> x.shrink(0, -1, 5, 3));
        refused(state, "shrink 4", -1, x -> x.shrink(0, 4, 5, 3));
    }

    private static void withAnOpenRow() {
        unknownTables(Twins.OPEN, 3);
        preambleStands(Twins.OPEN);
        int state = Twins.OPEN;
        refused(state, "row", -3, x -> x.row(0));
        refused(state, "between", -3, x -> x.between(0));
        refused(state, "run", -3, x -> x.run(0, 2, 5));
        refused(state, "entry, w below", -2, x -> x.entry(0, -1, 1, false));
        refused(state, "entry, w above", -2, x -> x.entry(0, 100001, 1, false));
        refused(state, "entry, span below", -2, x -> x.entry(0, 5, 0, false));
        refused(state, "entry, span above", -2, x -> x.entry(0, 5, 9, false));
        refused(state, "entry, over the end", -1, x -> x.entry(0, 5, 2, false));
        refused(state, "entry, far over the end", -1, x -> x.entry(0, 5, 8, false));
        refused(state, "nest, over the end", -1, x -> x.nest(0, 1, 2));
        refused(state, "nest, itself", -3, x -> x.nest(0, 0, 1));
        refused(state, "nest, not run", -3, x -> x.nest(0, 2, 1));
        refused(state, "nest, span below", -2, x -> x.nest(0, 1, 0));
        refused(state, "nest, span above", -2, x -> x.nest(0, 1, 9));
    }

    private static void withoutRoom() {
        unknownTables(Twins.FULL, 6);
        unknownTables(Twins.FULL, -1);
        int state = Twins.FULL;
        refused(state, "table", -4, x -> x.table());
        refused(state, "row", -4, x -> x.row(0));
        refused(state, "between", -4, x -> x.between(0));
        refused(state, "type", -4, x -> x.type(1, 'a', 0, 0));
        refused(state, "type of A", -2, x -> x.type(1, 'A', 0, 0));
        refused(state, "type where a preamble is", -3, x -> x.type(0, 'a', 0, 0));
        refused(state, "row of a tape", -3, x -> x.row(1));
    }

    private static long threw(Runnable call) {
        try {
            call.run();
        } catch (ArrayIndexOutOfBoundsException e) {
            return 1;
        }
        return 0;
    }

    private static void thrown() {
        for (int state = 0; state < Twins.STATES; state++) {
            refused(state, "count", 1, x -> threw(() -> x.count(0, 12)));
            refused(state, "item", 1, x -> threw(() -> x.item(0, 40)));
            refused(state, "place", 1, x -> threw(() -> x.place(0, 24)));
            refused(state, "at", 1, x -> threw(() -> x.at(0, 0, 0, 5)));
        }
    }

    private static void answers(int state, String name, long due, Call call) {
        Checks.due(name + " in state " + state, due, call.on(Twins.made(state)));
    }

    private static void unknownFirst() {
        for (int state = 0; state < Twins.STATES; state++) {
            answers(state, "type", -1, x -> x.type(6, 'A', 0, 0));
            answers(state, "glue", -1, x -> x.glue(6, -1, 10001, -1, 4));
            answers(state, "shrink", -1, x -> x.shrink(6, -1, -1, 4));
            answers(state, "entry", -1, x -> x.entry(6, -1, 0, true));
            answers(state, "nest", -1, x -> x.nest(0, 6, 0));
            answers(state, "nest in none", -1, x -> x.nest(6, 0, 0));
            answers(state, "run", -1, x -> x.run(6, 3, 1000001));
        }
    }

    private static void rangeBeforeState() {
        answers(Twins.LAID, "type", -2, x -> x.type(0, 'A', 0, 0));
        answers(Twins.FULL, "type where a preamble is, and no room", -2, x -> x.type(0, 'A', 0, 0));
        answers(Twins.FULL, "type without room", -2, x -> x.type(1, 'A', 0, 0));
    }

    /** In these calls the document tells another order. */
    private static void stateBeforeRange() {
        for (int state = Twins.TABLE; state <= Twins.TYPED; state++) {
            answers(state, "glue", -3, x -> x.glue(0, -1, 10001, -1, 4));
            answers(state, "shrink", -3, x -> x.shrink(0, -1, -1, 4));
            answers(state, "entry", -3, x -> x.entry(0, -1, 0, true));
            answers(state, "nest", -3, x -> x.nest(0, 0, 0));
            answers(state, "run", -3, x -> x.run(0, 3, 1000001));
        }
        answers(Twins.OPEN, "glue", -1, x -> x.glue(0, 4, 10001, -1, 4));
        answers(Twins.OPEN, "shrink", -1, x -> x.shrink(0, 4, -1, 4));
        answers(Twins.OPEN, "run", -3, x -> x.run(0, 3, 1000001));
        answers(Twins.RAN, "entry", -3, x -> x.entry(0, -1, 0, true));
        answers(Twins.RAN, "nest", -3, x -> x.nest(0, 1, 0));
        answers(Twins.OPEN, "nest, itself", -3, x -> x.nest(0, 0, 0));
        answers(Twins.OPEN, "nest, not run", -3, x -> x.nest(0, 2, 0));
    }

    private static void stateBeforeRoom() {
        answers(Twins.FULL, "type where a preamble is", -3, x -> x.type(0, 'a', 0, 0));
        AlignRows x = Checks.laid("#");
        for (int i = 0; i < 20; i++) {
            x.between(0);
            x.row(0);
            if (i < 19) {
                x.end(0);
            }
        }
        Checks.due("row, the last one is open", -3, x.row(0));
        Checks.due("between, the last row is open", -3, x.between(0));
        x.end(0);
        Checks.due("row, no room", -4, x.row(0));
        Checks.due("between, no room", -4, x.between(0));
    }
}
