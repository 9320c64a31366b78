/** Rule 7 of LANGUAGE.md: no call throws by itself, whatever its numbers are and whatever was called before. */
public final class ExtremesTest {
    private static final int[] EXTREMES = {Integer.MIN_VALUE, Integer.MIN_VALUE + 1, -1, 0, 1, 3, 24, 40,
        Integer.MAX_VALUE - 1, Integer.MAX_VALUE};
    private static final String[] NAMES = {"table", "type", "lay", "glue", "shrink", "row", "entry", "nest", "end",
        "between", "run", "width", "isVoid", "place", "at", "item", "count"};
    private static final int[] ARGUMENTS = {0, 4, 1, 5, 4, 1, 3, 3, 1, 1, 3, 2, 2, 2, 4, 2, 2};
    private static final int RUN = 10;
    private static final int PLACE = 13;
    private static final int CALLS_OF_ONE = 8;

    public static void main(String[] args) {
        for (int state = 0; state < Twins.STATES; state++) {
            String twin = Twins.goOn(Twins.made(state));
            for (int call = 0; call < NAMES.length; call++) {
                twoOutOfTheWay(state, call, twin);
            }
        }
        Checks.finish();
    }

    /** Any two arguments take each extreme, and the others are 0 or 1. */
    private static void twoOutOfTheWay(int state, int call, String twin) {
        AlignRows x = Twins.made(state);
        int calls = 0;
        int last = Math.max(1, ARGUMENTS[call]);
        for (int first = 0; first < last; first++) {
            for (int second = first; second < last; second++) {
                for (int a : EXTREMES) {
                    for (int b : EXTREMES) {
                        int[] arguments = {0, 0, 1, 1, 1};
                        arguments[first] = a;
                        arguments[second] = b;
                        boolean refused = isRefused(x, call, arguments);
                        calls++;
                        if (refused && calls % CALLS_OF_ONE == 0) {
                            Checks.same("refused " + NAMES[call] + " in state " + state, twin, Twins.goOn(x));
                        }
                        if (!refused || calls % CALLS_OF_ONE == 0) {
                            x = Twins.made(state);
                        }
                    }
                }
            }
        }
    }

    private static boolean isRefused(AlignRows x, int call, int[] a) {
        long runs = call == RUN ? runs(x) : 0;
        try {
            long answer = answer(x, call, a);
            boolean wasRun = call == RUN && runs(x) > runs;
            return call > RUN || answer < 0 && answer > -10 && !wasRun;
        } catch (RuntimeException e) {
            boolean may = call >= PLACE && Checks.isThrownOutright(e);
            Checks.holds(NAMES[call] + "(" + a[0] + ", " + a[1] + ", " + a[2] + ", " + a[3] + ", " + a[4] + ") threw "
                    + e, may);
            return true;
        }
    }

    private static long runs(AlignRows x) {
        long runs = 0;
        for (int t = 0; t < 2; t++) {
            try {
                runs += x.count(t, 9);
            } catch (ArrayIndexOutOfBoundsException e) {
                return runs;
            }
        }
        return runs;
    }

    private static long answer(AlignRows x, int call, int[] a) {
        switch (call) {
            case 0:
                return x.table();
            case 1:
                return x.type(a[0], a[1], a[2], a[3]);
            case 2:
                return x.lay(a[0]);
            case 3:
                return x.glue(a[0], a[1], a[2], a[3], a[4]);
            case 4:
                return x.shrink(a[0], a[1], a[2], a[3]);
            case 5:
                return x.row(a[0]);
            case 6:
                return x.entry(a[0], a[1], a[2], a[3] == 1);
            case 7:
                return x.nest(a[0], a[1], a[2]);
            case 8:
                return x.end(a[0]);
            case 9:
                return x.between(a[0]);
            case RUN:
                return x.run(a[0], a[1], a[2]);
            case 11:
                return x.width(a[0], a[1]);
            case 12:
                return x.isVoid(a[0], a[1]) ? 1 : 0;
            case PLACE:
                return x.place(a[0], a[1]);
            case 14:
                return x.at(a[0], a[1], a[2], a[3]);
            case 15:
                return x.item(a[0], a[1]);
            default:
                return x.count(a[0], a[1]);
        }
    }
}
