import java.util.ArrayList;
import java.util.List;

// Each call with all that its arguments may be at their edges, taken together in every way: what is refused is told by
// the first ground in the order of the document, and all that can be asked of the object stays as it was.
public final class RefusedTest {
    private static final int OUTSIDE = -3, NOTHING = -11, CAST = -12, INDEX = -13, SIZE = -14;
    private static final int LOW = Integer.MIN_VALUE, HIGH = Integer.MAX_VALUE;
    private static final long LIMIT = 1L << 53;
    private static final long ACCEPTED = Long.MAX_VALUE;
    // An object has 512 calls; making it and asking all of it takes less than 390.
    private static final int CALLS_AT_ONCE = 120;

    // What stands in the object that is asked: KINDS of the rows and keepers (-1 MISSING), and their places.
    private static final int[] ROW_KINDS = {5, 3, 4, 5, 0, -1, 5, -1, -1, 1, -1, 2};
    private static final int[] PLACES = {3, 2, 3, 40, 0, -1, 0, -1, -1, 1, -1, 1};
    private static final int[] KEEPER_KINDS = {0, 1, 2, -1, -1, 0};

    private static final int[] SOME_ROWS = {-1, 12, LOW, HIGH, 0, 1, 2, 3, 4, 5, 6, 10, 11};
    private static final int[] FEW_ROWS = {-1, 12, 0, 1, 3, 4, 5};
    private static final int[] SOME_KEEPERS = {-1, 6, LOW, HIGH, 0, 1, 2, 3, 4, 5};
    private static final int[] SOME_PLACES = {-1, 0, 1, 2, 3, 4, 39, 40, LOW, HIGH};
    private static final int[] FEW_PLACES = {-1, 0, 1, 3, 40, LOW, HIGH};
    private static final int[] SOME_MANY = {-41, -40, -3, -1, 0, 1, 2, 3, 4, 40, 41, LOW, HIGH};
    private static final int[] FEW_MANY = {-1, 0, 1, 3, 4, 40, LOW, HIGH};
    // Numbers for put: each has a place in WHOLES or POWERS.
    private static final int[] EIGHT = {0, 1, 2, 3, 4, 5, 6, 7};
    private static final long[] WHOLES = {-LIMIT, LIMIT, Long.MIN_VALUE, Long.MAX_VALUE, 1 - LIMIT, LIMIT - 1, 0, 9};
    private static final int[] POWERS = {-1075, 972, LOW, HIGH, -1074, 971, 0, 5};

    private interface Asked {
        double of(LongSums x, int[] a);
    }

    private interface Due {
        long of(int[] a);
    }

    private static int wrong = 0;
    private static int refused = 0;

    private static void tell(String fault) {
        wrong++;
        if (wrong <= 20) {
            System.out.println(fault);
        }
    }

    // ---- the object that is asked

    private static LongSums made() {
        LongSums x = new LongSums();
        for (int row = 0; row < 12; row++) {
            if (ROW_KINDS[row] >= 0) {
                x.row(row, ROW_KINDS[row], PLACES[row]);
                x.put(row, 0, 20 + row, 0);
                x.put(row, 2, -30 - row, -3);
                x.put(row, 39, 7, 5);
            }
        }
        x.mark(0, 1, 0);
        x.mark(2, 1, 3);
        for (int keeper = 0; keeper < 6; keeper++) {
            if (KEEPER_KINDS[keeper] >= 0) {
                x.keeper(keeper, KEEPER_KINDS[keeper]);
            }
        }
        x.add(0, 0, 0, 3);
        x.pair(1, 2, 3, 0, 3);
        x.add(2, 3, 0, -3);
        x.merge(2, 1);
        x.error(5, 3, 0, 40);
        x.merge(0, 5);
        x.add(0, 1, 0, 2);
        x.pair(2, 0, 3, 0, -2);
        x.clear(1);
        return x;
    }

    // All that can be asked of an object; what is asked last changes it.
    private static String told(LongSums x) {
        StringBuilder all = new StringBuilder();
        for (int what = 0; what <= 5; what++) {
            all.append(x.count(what)).append(' ');
        }
        for (int row = 0; row < 12; row++) {
            all.append("\nrow ").append(row).append(':');
            for (int kind = 0; kind <= 3; kind++) {
                all.append(' ').append(x.look(row, kind, 0));
            }
            for (int place = 0; place <= 3; place++) {
                all.append(' ').append(x.compare(row, place, 0.0));
                all.append(' ').append(x.see(row, place));
            }
            all.append(' ').append(x.see(row, 39)).append(' ').append(x.plain(row, 0, 40));
        }
        for (int keeper = 0; keeper < 6; keeper++) {
            all.append("\nkeeper ").append(keeper).append(':');
            for (int what = 0; what <= 2; what++) {
                all.append(' ').append(x.seen(keeper, what));
            }
            all.append(' ').append(x.add(keeper, 0, -1, 0)).append(' ').append(x.pair(keeper, 0, 0, -1, 0));
        }
        for (int i = 0; i <= 12; i++) {
            all.append("\nsums:");
            for (int keeper = 0; keeper < 6; keeper += keeper == 2 ? 3 : 1) {
                all.append(' ').append(x.high(keeper)).append(' ').append(x.sign(keeper));
            }
            all.append(" undo: ").append(x.undo());
        }
        all.append("\nplaces:");
        for (int row = 0; row < 12; row++) {
            all.append(' ').append(x.lose(row));
        }
        return all.toString();
    }

    // ---- what is due

    private static boolean isRow(int row) {
        return row >= 0 && row <= 11;
    }

    private static boolean isKeeper(int keeper) {
        return keeper >= 0 && keeper <= 5;
    }

    private static boolean hasNo(int row, long place, long many) {
        return place < 0 || place + many > PLACES[row];
    }

    // The grounds of refusal, in the order of the document; of several the first.
    private static long first(Object... grounds) {
        for (int i = 0; i < grounds.length; i += 2) {
            if ((Boolean) grounds[i]) {
                return (Integer) grounds[i + 1];
            }
        }
        return ACCEPTED;
    }

    private static long dueRow(int[] a) {
        return first(!isRow(a[0]) || a[1] < 0 || a[1] > 5 || a[2] > 40, OUTSIDE, a[2] < 0, SIZE);
    }

    private static long dueLose(int[] a) {
        return !isRow(a[0]) ? OUTSIDE : first(ROW_KINDS[a[0]] < 0, NOTHING);
    }

    private static long duePut(int[] a) {
        if (!isRow(a[0]) || a[2] < 4 || a[3] < 4) {
            return OUTSIDE;
        }
        return first(ROW_KINDS[a[0]] < 0, NOTHING, hasNo(a[0], a[1], 1), INDEX);
    }

    private static long dueMark(int[] a) {
        if (!isRow(a[0]) || a[2] < 0 || a[2] > 5) {
            return OUTSIDE;
        }
        return first(ROW_KINDS[a[0]] < 0, NOTHING, ROW_KINDS[a[0]] < 4, CAST, hasNo(a[0], a[1], 1), INDEX);
    }

    private static long dueCopy(int[] a) {
        if (!isRow(a[0]) || !isRow(a[2])) {
            return OUTSIDE;
        }
        return first(ROW_KINDS[a[0]] < 0 || ROW_KINDS[a[2]] < 0, NOTHING, ROW_KINDS[a[0]] != ROW_KINDS[a[2]], CAST,
            a[4] < 0 || hasNo(a[0], a[1], a[4]) || hasNo(a[2], a[3], a[4]), INDEX);
    }

    private static long dueLook(int[] a) {
        if (!isRow(a[0]) || a[1] < 0 || a[1] > 3) {
            return OUTSIDE;
        }
        return first(ROW_KINDS[a[0]] < 0, NOTHING, ROW_KINDS[a[0]] != a[1], CAST, hasNo(a[0], a[2], 1), INDEX);
    }

    private static long dueSee(int[] a) {
        return !isRow(a[0]) ? 0 : first(ROW_KINDS[a[0]] < 4 || hasNo(a[0], a[1], 1), 0);
    }

    private static long dueCompare(int[] a) {
        return !isRow(a[0]) ? OUTSIDE : first(ROW_KINDS[a[0]] < 0, NOTHING, hasNo(a[0], a[1], 1), INDEX);
    }

    private static long dueKeeper(int[] a) {
        return first(!isKeeper(a[0]) || a[1] < 0 || a[1] > 2, OUTSIDE);
    }

    private static long dueAdd(int[] a) {
        if (!isKeeper(a[0]) || !isRow(a[1]) || a[3] < -40 || a[3] > 40) {
            return OUTSIDE;
        }
        return first(KEEPER_KINDS[a[0]] < 0, NOTHING, ROW_KINDS[a[1]] < 0, NOTHING, KEEPER_KINDS[a[0]] == 1, CAST,
            hasNo(a[1], a[2], Math.abs(a[3])), INDEX);
    }

    private static long duePair(int[] a) {
        if (!isKeeper(a[0]) || !isRow(a[1]) || !isRow(a[2]) || a[4] < -40 || a[4] > 40) {
            return OUTSIDE;
        }
        return first(KEEPER_KINDS[a[0]] < 0, NOTHING, ROW_KINDS[a[1]] < 0 || ROW_KINDS[a[2]] < 0, NOTHING,
            KEEPER_KINDS[a[0]] == 0, CAST,
            hasNo(a[1], a[3], Math.abs(a[4])) || hasNo(a[2], a[3], Math.abs(a[4])), INDEX);
    }

    private static long dueMerge(int[] a) {
        if (!isKeeper(a[0]) || !isKeeper(a[1])) {
            return OUTSIDE;
        }
        return first(KEEPER_KINDS[a[0]] < 0 || KEEPER_KINDS[a[1]] < 0, NOTHING,
            KEEPER_KINDS[a[0]] == 0 != (KEEPER_KINDS[a[1]] == 0), CAST);
    }

    private static long dueOfKeeper(int keeper) {
        return !isKeeper(keeper) ? OUTSIDE : first(KEEPER_KINDS[keeper] < 0, NOTHING);
    }

    private static long dueError(int[] a) {
        if (!isKeeper(a[0]) || !isRow(a[1]) || a[3] < 0 || a[3] > 40) {
            return OUTSIDE;
        }
        return first(KEEPER_KINDS[a[0]] < 0, NOTHING, ROW_KINDS[a[1]] < 0, NOTHING, KEEPER_KINDS[a[0]] != 0, CAST,
            hasNo(a[1], a[2], a[3]), INDEX);
    }

    private static long duePlain(int[] a) {
        if (!isRow(a[0]) || a[2] < 0 || a[2] > 40) {
            return 0;
        }
        return first(ROW_KINDS[a[0]] < 0 || hasNo(a[0], a[1], a[2]), 0);
    }

    private static long dueSeen(int[] a) {
        return a[1] < 0 || a[1] > 2 ? OUTSIDE : dueOfKeeper(a[0]);
    }

    private static long dueTell(int[] a) {
        return dueOfKeeper(a[0]) != ACCEPTED || a[1] < 0 || a[1] > 3 ? 0 : ACCEPTED;
    }

    private static long dueMean(int[] a) {
        return dueOfKeeper(a[0]) != ACCEPTED || a[2] < 0 || a[2] > 3 || a[1] < 1 || a[1] > 1000000 ? 0 : ACCEPTED;
    }

    private static long dueLength(int[] a) {
        return dueOfKeeper(a[0]) != ACCEPTED || KEEPER_KINDS[a[0]] == 0 ? 0 : ACCEPTED;
    }

    private static long dueHigh(int[] a) {
        return dueOfKeeper(a[0]) == ACCEPTED ? ACCEPTED : dueOfKeeper(a[0]) - 9999;
    }

    private static long dueBit(int[] a) {
        return a[1] < -2148 || a[1] > 2200 ? OUTSIDE : dueOfKeeper(a[0]);
    }

    private static long dueOrder(int[] a) {
        if (!isKeeper(a[0]) || !isKeeper(a[1])) {
            return OUTSIDE;
        }
        return first(KEEPER_KINDS[a[0]] < 0 || KEEPER_KINDS[a[1]] < 0, NOTHING);
    }

    private static long dueCount(int[] a) {
        return first(a[0] < 0 || a[0] > 5, OUTSIDE);
    }

    // ---- every way to take the arguments together

    private static String named(String call, int[] a) {
        StringBuilder name = new StringBuilder(call).append('(');
        for (int i = 0; i < a.length; i++) {
            name.append(i == 0 ? "" : ", ").append(a[i]);
        }
        return name.append(')').toString();
    }

    private static List<int[]> together(int[][] choices) {
        List<int[]> ways = new ArrayList<>();
        int[] at = new int[choices.length];
        int moved = 0;
        while (moved < choices.length) {
            int[] a = new int[choices.length];
            for (int i = 0; i < a.length; i++) {
                a[i] = choices[i][at[i]];
            }
            ways.add(a);
            moved = 0;
            while (moved < choices.length && ++at[moved] == choices[moved].length) {
                at[moved++] = 0;
            }
        }
        return ways;
    }

    private static void look(String call, Asked asked, Due due, int[]... choices) {
        String before = told(made());
        LongSums x = made();
        int calls = 0;
        String last = "";
        for (int[] a : together(choices)) {
            long want = due.of(a);
            if (want == ACCEPTED) {
                accepted(call, asked, a);
                continue;
            }
            refused++;
            last = named(call, a);
            double got = asked.of(x, a);
            if (got != want) {
                tell(last + " answered " + got + ", due is " + want);
            }
            if (++calls == CALLS_AT_ONCE) {
                same(last, before, told(x));
                x = made();
                calls = 0;
            }
        }
        same(last, before, told(x));
    }

    private static void same(String last, String before, String after) {
        if (!before.equals(after)) {
            tell("after " + last + " and refused calls before it all is no longer as it was; it was\n" + before
                + "\nit is\n" + after);
        }
    }

    // What is not refused is not answered by a finding. (look() of longs and see() may answer any number.)
    private static void accepted(String call, Asked asked, int[] a) {
        double got = asked.of(made(), a);
        boolean mayBeAny = call.equals("look") || call.equals("see") || call.equals("plain") || call.equals("tell")
            || call.equals("mean") || call.equals("length") || call.equals("high");
        if (!mayBeAny && got < 0) {
            tell(named(call, a) + " answered " + got + ", but is not refused");
        }
    }

    private static void rows() {
        int[] kinds = {-1, 0, 1, 3, 4, 5, 6, LOW, HIGH};
        look("row", (x, a) -> x.row(a[0], a[1], a[2]), RefusedTest::dueRow, SOME_ROWS, kinds, SOME_MANY);
        look("lose", (x, a) -> x.lose(a[0]), RefusedTest::dueLose, SOME_ROWS);
        look("put", (x, a) -> x.put(a[0], a[1], WHOLES[a[2]], POWERS[a[3]]), RefusedTest::duePut,
            SOME_ROWS, FEW_PLACES, EIGHT, EIGHT);
        look("mark", (x, a) -> x.mark(a[0], a[1], a[2]), RefusedTest::dueMark,
            SOME_ROWS, SOME_PLACES, new int[] {-1, 0, 2, 5, 6, LOW, HIGH});
        look("copy", (x, a) -> x.copy(a[0], a[1], a[2], a[3], a[4]), RefusedTest::dueCopy,
            FEW_ROWS, FEW_PLACES, FEW_ROWS, FEW_PLACES, FEW_MANY);
        look("look", (x, a) -> x.look(a[0], a[1], a[2]), RefusedTest::dueLook, SOME_ROWS, kinds, SOME_PLACES);
        look("see", (x, a) -> x.see(a[0], a[1]), RefusedTest::dueSee, SOME_ROWS, SOME_PLACES);
        look("compare", (x, a) -> x.compare(a[0], a[1], a[2]), RefusedTest::dueCompare,
            SOME_ROWS, SOME_PLACES, new int[] {0, 20});
    }

    private static void keepers() {
        look("keeper", (x, a) -> x.keeper(a[0], a[1]), RefusedTest::dueKeeper,
            SOME_KEEPERS, new int[] {-1, 0, 1, 2, 3, LOW, HIGH});
        look("add", (x, a) -> x.add(a[0], a[1], a[2], a[3]), RefusedTest::dueAdd,
            SOME_KEEPERS, SOME_ROWS, SOME_PLACES, SOME_MANY);
        look("pair", (x, a) -> x.pair(a[0], a[1], a[2], a[3], a[4]), RefusedTest::duePair,
            new int[] {-1, 6, 0, 1, 2, 3}, FEW_ROWS, FEW_ROWS, FEW_PLACES, SOME_MANY);
        look("merge", (x, a) -> x.merge(a[0], a[1]), RefusedTest::dueMerge, SOME_KEEPERS, SOME_KEEPERS);
        look("clear", (x, a) -> x.clear(a[0]), a -> dueOfKeeper(a[0]), SOME_KEEPERS);
        look("error", (x, a) -> x.error(a[0], a[1], a[2], a[3]), RefusedTest::dueError,
            SOME_KEEPERS, SOME_ROWS, SOME_PLACES, SOME_MANY);
        look("plain", (x, a) -> x.plain(a[0], a[1], a[2]), RefusedTest::duePlain, SOME_ROWS, SOME_PLACES, SOME_MANY);
    }

    private static void whatIsTold() {
        int[] ways = {-1, 0, 1, 2, 3, 4, LOW, HIGH};
        int[] both = {0, 1};
        look("sort", (x, a) -> x.sort(a[0]), a -> dueOfKeeper(a[0]), SOME_KEEPERS);
        look("seen", (x, a) -> x.seen(a[0], a[1]), RefusedTest::dueSeen, SOME_KEEPERS, ways);
        look("tell", (x, a) -> x.tell(a[0], a[1], a[2] == 1), RefusedTest::dueTell, SOME_KEEPERS, ways, both);
        look("mean", (x, a) -> x.mean(a[0], a[1], a[2]), RefusedTest::dueMean,
            SOME_KEEPERS, new int[] {-1, 0, 1, 1000000, 1000001, LOW, HIGH}, ways);
        look("length", (x, a) -> x.length(a[0], a[1] == 1), RefusedTest::dueLength, SOME_KEEPERS, both);
        look("sign", (x, a) -> x.sign(a[0]), a -> dueOfKeeper(a[0]), SOME_KEEPERS);
        look("high", (x, a) -> x.high(a[0]), RefusedTest::dueHigh, SOME_KEEPERS);
        look("bit", (x, a) -> x.bit(a[0], a[1]), RefusedTest::dueBit,
            SOME_KEEPERS, new int[] {-2149, -2148, 0, 2200, 2201, LOW, HIGH});
        look("order", (x, a) -> x.order(a[0], a[1]), RefusedTest::dueOrder, SOME_KEEPERS, SOME_KEEPERS);
        look("count", (x, a) -> x.count(a[0]), RefusedTest::dueCount, new int[] {-1, 0, 5, 6, LOW, HIGH});
    }

    public static void main(String[] args) {
        rows();
        keepers();
        whatIsTold();
        System.out.println(wrong == 0 ? "all " + refused + " refused calls are as due" : wrong + " faults");
        if (wrong != 0) {
            System.exit(1);
        }
    }
}
