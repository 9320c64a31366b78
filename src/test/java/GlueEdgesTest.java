/** Glues, and how they share an excess (promises 5 and 6, "3 WIDTHS"): each sentence that names a boundary case. */
public final class GlueEdgesTest {
    private static final int[] NO_ORDERS = {0, 0, 0, 0};

    public static void main(String[] args) {
        zeroAtFirst();
        glueNumbers();
        widthRange();
        stretchRange();
        glueOrders();
        shrinkRange();
        glueRefused();
        shrinkRefused();
        aboveAndBelow();
        greatestOrder();
        sumsThatAreZero();
        noExcess();
        onlyThoseOfTheOrder();
        stretchRoundedDown();
        shrinkRoundedDown();
        shrinksOfOrderZero();
        noOtherBound();
        missingWithoutOrder();
        Checks.finish();
    }

    private static void order(String what, AlignRows x, int order, long missing) {
        Checks.due(what + ": the order", order, x.count(0, 10));
        Checks.due(what + ": missing", missing, x.count(0, 11));
    }

    private static void zeroAtFirst() {
        Checks.sentence("A glue has a width, a stretch with an order, a shrink with an order (all 0 at first).");
        AlignRows x = Checks.laid("#&#");
        Checks.plainRow(x, 10, 1, 20, 1);
        Checks.due("no widths", 30, x.run(0, 0, 0));
        Checks.places("no widths", x, 0, 10);
        x.run(0, 2, 5);
        order("no stretches", x, -1, 5);
        x.run(0, 2, -5);
        order("no shrinks", x, -1, 5);
        x.glue(0, 1, 3, 4, 2);
        x.run(0, 2, -5);
        order("glue() sets no shrink", x, -1, 5);
        AlignRows y = Checks.laid("#&#");
        Checks.plainRow(y, 10, 1, 20, 1);
        y.shrink(0, 1, 3, 2);
        Checks.due("shrink() sets no width", 35, y.run(0, 2, 5));
        order("shrink() sets no stretch", y, -1, 5);
    }

    /** Glue k is 2 to the power of k wide, so that each sum tells its glues. */
    private static void glueNumbers() {
        Checks.sentence("GLUES: number 0 is before column 0, k + 1 behind that of template k"
                + " (behind each column that is as it).");
        for (int n = 1; n <= 12; n++) {
            for (int r = -1; r < n; r++) {
                powersOfTwo(n, r);
            }
        }
    }

    private static void powersOfTwo(int n, int r) {
        String marks = "#&".repeat(n - 1) + "#";
        AlignRows x = Checks.laid(r < 0 ? marks : marks.substring(0, 2 * r) + "&" + marks.substring(2 * r));
        for (int k = 0; k <= n; k++) {
            Checks.due("glue " + k + " of " + n, 1, x.glue(0, k, 1 << k, 0, 0));
        }
        Checks.due("glue " + (n + 1) + " of " + n, -1, x.glue(0, n + 1, 0, 0, 0));
        int columns = r < 0 ? n : 24;
        x.row(0);
        for (int c = 0; c < columns; c++) {
            x.entry(0, 0, 1, true);
        }
        x.end(0);
        x.run(0, 0, 0);
        long place = 1;
        int template = 0;
        for (int c = 0; c < columns; c++) {
            Checks.due("place of column " + c + " of " + n + " from " + r, place, x.place(0, c));
            place += 2L << template;
            template = template + 1 == n ? r : template + 1;
        }
        Checks.due("the last glue is behind the last column", place, x.count(0, 7));
    }

    private static void widthRange() {
        Checks.sentence("A glue's width (-10000 .. 10000)");
        AlignRows x = Checks.laid("#");
        int[] widths = {-10000, -9999, -1, 0, 1, 9999, 10000};
        for (int width : widths) {
            Checks.due("width " + width, 1, x.glue(0, 0, width, 0, 0));
            Checks.due("a run with width " + width, width, x.run(0, 0, 0));
            Checks.due("-10001", -2, x.glue(0, 0, -10001, 0, 0));
            Checks.due("10001", -2, x.glue(0, 0, 10001, 0, 0));
            Checks.due("a run with width " + width + " still", width, x.run(0, 0, 0));
        }
    }

    private static void stretchRange() {
        Checks.sentence("stretch (0 .. 10000) and its order (0 .. 3): 1.");
        AlignRows x = Checks.laid("#");
        Checks.plainRow(x, 0, 1);
        int[] stretches = {0, 1, 9999, 10000};
        for (int stretch : stretches) {
            Checks.due("a stretch of 10000", 1, x.glue(0, 1, 0, 10000, 0));
            Checks.due("stretch " + stretch, 1, x.glue(0, 0, 0, stretch, 0));
            Checks.due("stretch -1", -2, x.glue(0, 0, 0, -1, 0));
            Checks.due("stretch 10001", -2, x.glue(0, 0, 0, 10001, 0));
            x.run(0, 2, 10000 + stretch);
            Checks.due("place by stretch " + stretch, stretch, x.place(0, 0));
        }
    }

    private static void glueOrders() {
        Checks.sentence("and its order (0 .. 3): 1.");
        AlignRows x = Checks.laid("#");
        for (int order = 0; order <= 3; order++) {
            Checks.due("stretch of order " + order, 1, x.glue(0, 0, 0, 1, order));
            Checks.due("shrink of order " + order, 1, x.shrink(0, 0, 1, 3 - order));
            Checks.due("stretch of order -1", -2, x.glue(0, 0, 0, 1, -1));
            Checks.due("stretch of order 4", -2, x.glue(0, 0, 0, 1, 4));
            Checks.due("shrink of order -1", -2, x.shrink(0, 0, 1, -1));
            Checks.due("shrink of order 4", -2, x.shrink(0, 0, 1, 4));
            x.run(0, 2, 1);
            order("wider", x, order, 0);
            x.run(0, 2, -1);
            order("narrower", x, 3 - order, 0);
        }
    }

    private static void shrinkRange() {
        Checks.sentence("A glue's shrink (0 .. 10000) and its order (0 .. 3): 1.");
        AlignRows x = Checks.laid("#");
        int[] amounts = {0, 1, 9999, 10000};
        for (int amount : amounts) {
            Checks.due("shrink " + amount, 1, x.shrink(0, 0, amount, 0));
            Checks.due("shrink -1", -2, x.shrink(0, 0, -1, 0));
            Checks.due("shrink 10001", -2, x.shrink(0, 0, 10001, 0));
            x.run(0, 2, -20000);
            Checks.due("place by shrink " + amount, -amount, x.place(0, 0));
            Checks.due("missing", 20000 - amount, x.count(0, 11));
        }
    }

    private static void glueRefused() {
        Checks.sentence("-1 no such table; -3 without a preamble; then -1 no such glue (0 .. templates), -2.");
        AlignRows x = new AlignRows();
        Checks.due("no table", -1, x.glue(0, -1, 10001, -1, 4));
        x.table();
        Checks.due("table 1", -1, x.glue(1, -1, 10001, -1, 4));
        Checks.due("table -1", -1, x.glue(-1, 0, 0, 0, 0));
        Checks.due("-3 before -1 and -2", -3, x.glue(0, -1, 10001, -1, 4));
        Checks.typeText(x, 0, "#&#");
        Checks.due("-3 with a tape alone", -3, x.glue(0, 0, 0, 0, 0));
        x.lay(0);
        Checks.due("glue -1, -1 before -2", -1, x.glue(0, -1, 10001, -1, 4));
        Checks.due("glue 3, -1 before -2", -1, x.glue(0, 3, 10001, -1, 4));
        Checks.due("glue 3", -1, x.glue(0, 3, 0, 0, 0));
        Checks.due("glue 0, -2", -2, x.glue(0, 0, 10001, 0, 0));
        Checks.due("glue 0", 1, x.glue(0, 0, 0, 0, 0));
        Checks.due("glue 2", 1, x.glue(0, 2, 0, 0, 0));
        x.row(0);
        Checks.due("a row may be open", 1, x.glue(0, 1, 0, 0, 0));
    }

    private static void shrinkRefused() {
        Checks.sentence("-1, -3, -1, -2 as above.");
        AlignRows x = new AlignRows();
        Checks.due("no table", -1, x.shrink(0, -1, 10001, 4));
        x.table();
        Checks.due("table 1", -1, x.shrink(1, -1, 10001, 4));
        Checks.due("table -1", -1, x.shrink(-1, 0, 0, 0));
        Checks.due("-3 before -1 and -2", -3, x.shrink(0, -1, 10001, 4));
        Checks.typeText(x, 0, "#&#");
        Checks.due("-3 with a tape alone", -3, x.shrink(0, 0, 0, 0));
        x.lay(0);
        Checks.due("glue -1, -1 before -2", -1, x.shrink(0, -1, 10001, 4));
        Checks.due("glue 3, -1 before -2", -1, x.shrink(0, 3, 10001, 4));
        Checks.due("glue 3", -1, x.shrink(0, 3, 0, 0));
        Checks.due("glue 0, -2", -2, x.shrink(0, 0, 10001, 0));
        Checks.due("glue 0", 1, x.shrink(0, 0, 0, 0));
        Checks.due("glue 2", 1, x.shrink(0, 2, 0, 0));
        x.row(0);
        Checks.due("a row may be open", 1, x.shrink(0, 1, 0, 0));
    }

    /** Three columns of 10; glue 0 to 3 stretch, or shrink, as told. */
    private static AlignRows stretching(int[] stretches, int[] orders) {
        AlignRows x = Checks.laid("#&#&#");
        for (int k = 0; k < 4; k++) {
            x.glue(0, k, 0, stretches[k], orders[k]);
        }
        Checks.plainRow(x, 10, 1, 10, 1, 10, 1);
        return x;
    }

    private static AlignRows shrinking(int[] amounts, int[] orders) {
        AlignRows x = Checks.laid("#&#&#");
        for (int k = 0; k < 4; k++) {
            x.shrink(0, k, amounts[k], orders[k]);
        }
        Checks.plainRow(x, 10, 1, 10, 1, 10, 1);
        return x;
    }

    private static void aboveAndBelow() {
        Checks.sentence("above 0 the stretches count, below 0 the shrinks");
        AlignRows x = Checks.laid("#");
        x.glue(0, 0, 0, 1, 2);
        x.shrink(0, 0, 1, 1);
        Checks.plainRow(x, 10, 1);
        x.run(0, 2, 1);
        order("1 above", x, 2, 0);
        Checks.places("1 above", x, 1);
        x.run(0, 2, -1);
        order("1 below", x, 1, 0);
        Checks.places("1 below", x, -1);
        x.run(0, 1, 11);
        order("to 1 above", x, 2, 0);
        x.run(0, 1, 9);
        order("to 1 below", x, 1, 0);
        AlignRows y = Checks.laid("#&#");
        y.glue(0, 0, 0, 1, 3);
        y.shrink(0, 1, 1, 3);
        Checks.plainRow(y, 10, 1, 10, 1);
        for (int excess = 1; excess <= 3; excess++) {
            y.run(0, 2, excess);
            Checks.places("the stretch alone, " + excess, y, excess, 10 + excess);
            y.run(0, 2, -excess);
            Checks.places("the shrink alone, " + excess, y, 0, 10 - excess);
        }
    }

    private static void greatestOrder() {
        Checks.sentence("THE ORDER is the greatest one of which the sum of all glues' is not 0");
        for (int high = 1; high <= 3; high++) {
            for (int low = 0; low < high; low++) {
                AlignRows x = stretching(new int[] {0, 10000, 1, 0}, new int[] {3, low, high, 0});
                x.run(0, 2, 7);
                order("stretches of " + low + " and " + high, x, high, 0);
                Checks.places("stretches of " + low + " and " + high, x, 0, 10, 27);
                AlignRows y = shrinking(new int[] {0, 10000, 1, 0}, new int[] {3, low, high, 0});
                y.run(0, 2, -7);
                order("shrinks of " + low + " and " + high, y, high, 0);
                Checks.places("shrinks of " + low + " and " + high, y, 0, 10, 13);
            }
        }
    }

    private static void sumsThatAreZero() {
        Checks.sentence("of which the sum of all glues' is not 0");
        AlignRows x = stretching(new int[] {0, 5, 0, 0}, new int[] {3, 0, 2, 1});
        x.run(0, 2, 4);
        order("a stretch of 0 has an order in vain", x, 0, 0);
        AlignRows y = shrinking(new int[] {0, 0, 0, 5}, new int[] {3, 2, 2, 1});
        y.run(0, 2, -4);
        order("a shrink of 0 has an order in vain", y, 1, 0);
        AlignRows z = Checks.laid("#&#");
        z.glue(0, 1, 0, 5, 3);
        z.shrink(0, 1, 5, 3);
        z.glue(0, 2, 0, 1, 0);
        z.shrink(0, 2, 1, 0);
        Checks.plainRow(z, 10, 2);
        z.run(0, 2, 4);
        order("glue behind a void column stretches in vain", z, 0, 0);
        z.run(0, 2, -4);
        order("glue behind a void column shrinks in vain", z, 0, 3);
        AlignRows last = stretching(new int[] {1, 0, 0, 1}, new int[] {0, 0, 0, 1});
        last.run(0, 2, 4);
        order("the glue behind the last column counts", last, 1, 0);
        Checks.places("the glue behind the last column counts", last, 0, 10, 20);
    }

    private static void noExcess() {
        Checks.sentence("(none without an excess)");
        AlignRows x = Checks.laid("#");
        x.glue(0, 0, 3, 1, 2);
        x.shrink(0, 0, 1, 1);
        Checks.plainRow(x, 10, 1);
        int[][] waysAndWidths = {{0, 0}, {1, 13}, {2, 0}};
        for (int[] run : waysAndWidths) {
            Checks.due("way " + run[0], 13, x.run(0, run[0], run[1]));
            order("way " + run[0], x, -1, 0);
            Checks.due("way " + run[0] + ": the excess", 0, x.count(0, 8));
            Checks.places("way " + run[0], x, 3);
            x.run(0, 2, 1);
        }
    }

    private static void onlyThoseOfTheOrder() {
        Checks.sentence("with s the sum of those of the order up to it,");
        int[] amounts = {1, 1000, 2, 3};
        int[] orders = {2, 1, 2, 2};
        AlignRows x = stretching(amounts, orders);
        AlignRows y = shrinking(amounts, orders);
        for (int excess = 1; excess <= 20; excess++) {
            x.run(0, 2, excess);
            Checks.places("wider by " + excess, x, excess / 6, 10 + excess / 6, 20 + 3 * excess / 6);
            y.run(0, 2, -excess);
            Checks.places("narrower by " + excess, y, -(excess / 6), 10 - excess / 6, 20 - 3 * excess / 6);
        }
    }

    private static void stretchRoundedDown() {
        Checks.sentence("Glue by glue, with s the sum of those of the order up to it, all glues up to it have together"
                + " the excess times s over the whole sum more, rounded down");
        int[] stretches = {1, 2, 3, 5};
        AlignRows x = stretching(stretches, NO_ORDERS);
        for (int excess = 1; excess <= 34; excess++) {
            x.run(0, 2, excess);
            Checks.places("excess " + excess, x, excess / 11, 10 + 3 * excess / 11, 20 + 6 * excess / 11);
        }
        AlignRows y = stretching(new int[] {10000, 10000, 10000, 9999}, new int[] {3, 3, 3, 3});
        y.run(0, 2, 1000000);
        Checks.places("the greatest", y, 10000000000L / 39999, 10 + 20000000000L / 39999, 20 + 30000000000L / 39999);
    }

    private static void shrinkRoundedDown() {
        Checks.sentence("(below 0: less, as much rounded down)");
        int[] amounts = {1, 2, 3, 5};
        AlignRows x = shrinking(amounts, new int[] {1, 1, 1, 1});
        for (int less = 1; less <= 34; less++) {
            x.run(0, 2, -less);
            Checks.places("excess -" + less, x, -(less / 11), 10 - 3 * less / 11, 20 - 6 * less / 11);
            order("excess -" + less, x, 1, 0);
        }
    }

    private static void shrinksOfOrderZero() {
        Checks.sentence("Shrinks of order 0 give no more than their whole sum");
        AlignRows x = shrinking(new int[] {1, 2, 3, 5}, NO_ORDERS);
        x.run(0, 2, -10);
        order("one below their sum", x, 0, 0);
        Checks.places("one below their sum", x, 0, 8, 15);
        x.run(0, 2, -11);
        order("their sum", x, 0, 0);
        Checks.places("their sum", x, -1, 7, 14);
        x.run(0, 2, -12);
        order("one above their sum", x, 0, 1);
        Checks.places("one above their sum", x, -1, 7, 14);
        Checks.due("the excess is whole", -12, x.count(0, 8));
        Checks.due("far above their sum", -1000000, x.run(0, 1, -1000000));
        order("far above their sum", x, 0, 1000030 - 11);
        Checks.places("far above their sum", x, -1, 7, 14);
    }

    private static void noOtherBound() {
        Checks.sentence("what is left of the excess then, or all of it if there is no order, without its sign,"
                + " is MISSING.");
        int[] ones = {1, 1, 1, 1};
        AlignRows x = stretching(ones, NO_ORDERS);
        x.run(0, 2, 400);
        order("stretches of order 0 give all", x, 0, 0);
        Checks.places("stretches of order 0 give all", x, 100, 210, 320);
        for (int order = 1; order <= 3; order++) {
            AlignRows y = shrinking(ones, new int[] {order, order, order, order});
            y.run(0, 2, -400);
            order("shrinks of order " + order + " give all", y, order, 0);
            Checks.places("shrinks of order " + order + " give all", y, -100, -190, -280);
        }
    }

    private static void missingWithoutOrder() {
        Checks.sentence("or all of it if there is no order, without its sign, is MISSING.");
        AlignRows x = stretching(new int[4], new int[] {0, 1, 2, 3});
        int[] excesses = {1, -1, 1000000, -1000000};
        for (int excess : excesses) {
            Checks.due("the width", 30 + excess, x.run(0, 2, excess));
            order("excess " + excess, x, -1, Math.abs(excess));
            Checks.places("excess " + excess, x, 0, 10, 20);
        }
        x.run(0, 0, 0);
        order("nothing is missing from nothing", x, -1, 0);
    }
}
