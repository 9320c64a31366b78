/** Promises 5 and 6: glue and shrink. */
public final class GlueTest {
    public static void main(String[] args) {
        ranges();
        shrinkRanges();
        order();
        effect();
        refusalsChangeNothing();
        separate();
        behindRepeatedColumns();
        twelveTemplates();
        Checks.finish();
    }

    private static void ranges() {
        AlignRows x = Checks.laid("#&#");
        Checks.due("least", 1, x.glue(0, 0, -10000, 0, 0));
        Checks.due("greatest", 1, x.glue(0, 2, 10000, 10000, 3));
        Checks.due("width below", -2, x.glue(0, 0, -10001, 0, 0));
        Checks.due("width above", -2, x.glue(0, 0, 10001, 0, 0));
        Checks.due("stretch below", -2, x.glue(0, 0, 0, -1, 0));
        Checks.due("stretch above", -2, x.glue(0, 0, 0, 10001, 0));
        Checks.due("order below", -2, x.glue(0, 0, 0, 0, -1));
        Checks.due("order above", -2, x.glue(0, 0, 0, 0, 4));
        Checks.due("glue -1", -1, x.glue(0, -1, 0, 0, 0));
        Checks.due("glue 3", -1, x.glue(0, 3, 0, 0, 0));
        Checks.due("-1 before -2", -1, x.glue(0, 3, 0, 0, 4));
    }

    private static void shrinkRanges() {
        AlignRows x = Checks.laid("#&#");
        Checks.due("least", 1, x.shrink(0, 0, 0, 0));
        Checks.due("greatest", 1, x.shrink(0, 2, 10000, 3));
        Checks.due("amount below", -2, x.shrink(0, 0, -1, 0));
        Checks.due("amount above", -2, x.shrink(0, 0, 10001, 0));
        Checks.due("order below", -2, x.shrink(0, 0, 0, -1));
        Checks.due("order above", -2, x.shrink(0, 0, 0, 4));
        Checks.due("glue -1", -1, x.shrink(0, -1, 0, 0));
        Checks.due("glue 3", -1, x.shrink(0, 3, 0, 0));
        Checks.due("-1 before -2", -1, x.shrink(0, 3, 0, 4));
    }

    private static void order() {
        AlignRows x = new AlignRows();
        Checks.due("glue without a table", -1, x.glue(0, 0, 99999, 0, 0));
        Checks.due("shrink without a table", -1, x.shrink(0, 0, 99999, 0));
        x.table();
        Checks.due("glue without a preamble", -3, x.glue(0, 9, 99999, 0, 0));
        Checks.due("shrink without a preamble", -3, x.shrink(0, 9, 99999, 0));
        Checks.due("glue of table 1", -1, x.glue(1, 9, 99999, 0, 0));
        Checks.due("shrink of table -1", -1, x.shrink(-1, 9, 99999, 0));
        AlignRows y = Checks.laid("#");
        y.row(0);
        Checks.due("glue while a row is open", 1, y.glue(0, 1, 5, 0, 0));
        Checks.due("shrink while a row is open", 1, y.shrink(0, 1, 5, 0));
    }

    private static void effect() {
        AlignRows x = Checks.laid("#&#");
        Checks.plainRow(x, 10, 1, 20, 1);
        Checks.due("all glues are 0 at first", 30, x.run(0, 0, 0));
        x.glue(0, 0, 3, 0, 0);
        x.glue(0, 1, 4, 0, 0);
        x.glue(0, 2, 5, 0, 0);
        Checks.due("changes wait for a run", 30, x.count(0, 7));
        Checks.places("changes wait for a run", x, 0, 10);
        Checks.due("with glues", 42, x.run(0, 0, 0));
        Checks.places("with glues", x, 3, 17);
        x.glue(0, 1, -24, 0, 0);
        Checks.due("with a negative one", 14, x.run(0, 0, 0));
        Checks.places("with a negative one", x, 3, -11);
    }

    private static void refusalsChangeNothing() {
        AlignRows x = Checks.laid("#");
        x.glue(0, 0, 3, 6, 1);
        x.shrink(0, 0, 7, 2);
        x.glue(0, 0, 9, 9, 4);
        x.glue(0, 0, 10001, 9, 3);
        x.shrink(0, 0, 9, 4);
        x.shrink(0, 0, 10001, 3);
        Checks.plainRow(x, 10, 1);
        Checks.due("natural", 13, x.run(0, 0, 0));
        x.run(0, 2, 6);
        Checks.due("the order of the stretch", 1, x.count(0, 10));
        x.run(0, 2, -6);
        Checks.due("the order of the shrink", 2, x.count(0, 10));
    }

    /** glue leaves the shrink alone, and shrink leaves the rest alone. */
    private static void separate() {
        AlignRows x = Checks.laid("#");
        x.shrink(0, 0, 7, 2);
        x.glue(0, 0, 3, 6, 1);
        Checks.plainRow(x, 10, 1);
        Checks.due("shrunk", 9, x.run(0, 2, -4));
        Checks.due("order", 2, x.count(0, 10));
        Checks.places("shrunk", x, -1);
        x.shrink(0, 0, 0, 0);
        Checks.due("stretched", 17, x.run(0, 2, 4));
        Checks.due("order", 1, x.count(0, 10));
        Checks.places("stretched", x, 7);
    }

    private static void behindRepeatedColumns() {
        AlignRows x = Checks.laid("#&&#&#");
        x.glue(0, 0, 1, 0, 0);
        x.glue(0, 1, 10, 0, 0);
        x.glue(0, 2, 200, 0, 0);
        x.glue(0, 3, 3000, 0, 0);
        Checks.plainRow(x, 0, 1, 0, 1, 0, 1, 0, 1, 0, 1, 0, 1);
        Checks.due("natural", 6611, x.run(0, 0, 0));
        Checks.places("repeated", x, 1, 11, 211, 3211, 3411, 6411);
    }

    private static void twelveTemplates() {
        AlignRows x = Checks.laid("#&".repeat(11) + "#");
        Checks.due("glue 12", 1, x.glue(0, 12, 5, 1, 0));
        Checks.due("shrink 12", 1, x.shrink(0, 12, 1, 0));
        Checks.due("glue 13", -1, x.glue(0, 13, 5, 1, 0));
        Checks.due("shrink 13", -1, x.shrink(0, 13, 1, 0));
        Checks.plainRow(x, 1, 8, 1, 3, 1, 1);
        Checks.due("the glue behind the last column counts", 8, x.run(0, 0, 0));
    }
}
