// One method for each promise of the document: ordinary calls, edges, wrong arguments.
public final class PromisesTest {
    private static final int NONE = -1, OUTSIDE = -3, NOTHING = -11, CAST = -12, INDEX = -13, SIZE = -14;
    private static final int BYTES = 0, SHORTS = 1, INTS = 2, LONGS = 3, FLOATS = 4, DOUBLES = 5;
    private static final int SUMS = 0, PAIRS = 1, SQUARES = 2;
    private static final int ENDLESS_ABOVE = 0, ENDLESS_BELOW = 1, NO_NUMBER = 2, MINUS_NOUGHT = 3, GREATEST = 4, LEAST = 5;
    private static final double INFINITE = Double.POSITIVE_INFINITY;
    private static final int LOW = Integer.MIN_VALUE, HIGH = Integer.MAX_VALUE;

    private static int wrong = 0;
    private static int asked = 0;
    private static String promise = "";

    private static void due(String call, long got, long want) {
        asked++;
        if (got != want) {
            wrong++;
            System.out.println(promise + ": " + call + " answered " + got + ", due is " + want);
        }
    }

    // To the last bit, so that 0.0 and -0.0 are told apart.
    private static void dueDouble(String call, double got, double want) {
        asked++;
        if (Double.doubleToLongBits(got) != Double.doubleToLongBits(want)) {
            wrong++;
            System.out.println(promise + ": " + call + " answered " + got + ", due is " + want);
        }
    }

    private static LongSums withRow(int row, int kind, long... numbers) {
        LongSums x = new LongSums();
        fill(x, row, kind, numbers);
        return x;
    }

    private static void fill(LongSums x, int row, int kind, long... numbers) {
        due("row", x.row(row, kind, numbers.length), numbers.length);
        for (int i = 0; i < numbers.length; i++) {
            due("put", x.put(row, i, numbers[i], 0), 0);
        }
    }

    private static void all(LongSums x, String counts) {
        StringBuilder told = new StringBuilder();
        for (int what = 0; what <= 5; what++) {
            told.append(what == 0 ? "" : " ").append(x.count(what));
        }
        asked++;
        if (!told.toString().equals(counts)) {
            wrong++;
            System.out.println(promise + ": count(0 .. 5) answered " + told + ", due is " + counts);
        }
    }

    private static void constants() {
        due("NONE", LongSums.NONE, NONE);
        due("OUTSIDE", LongSums.OUTSIDE, OUTSIDE);
        due("NOTHING", LongSums.NOTHING, NOTHING);
        due("CAST", LongSums.CAST, CAST);
        due("INDEX", LongSums.INDEX, INDEX);
        due("SIZE", LongSums.SIZE, SIZE);
    }

    private static void promise01NewObject() {
        LongSums x = new LongSums();
        for (int row = 0; row <= 11; row++) {
            due("lose", x.lose(row), NOTHING);
        }
        for (int keeper = 0; keeper <= 5; keeper++) {
            due("sort", x.sort(keeper), NOTHING);
        }
        due("undo", x.undo(), NONE);
        all(x, "0 0 0 0 0 0");
        LongSums y = new LongSums();
        fill(x, 0, LONGS, 7, 8);
        x.keeper(0, SUMS);
        x.add(0, 0, 0, 2);
        all(y, "0 0 0 0 0 0");
    }

    private static void promise02Row() {
        LongSums x = new LongSums();
        due("row", x.row(0, BYTES, 0), 0);
        due("row", x.row(11, DOUBLES, 40), 40);
        due("row", x.row(-1, 0, 1), OUTSIDE);
        due("row", x.row(12, 0, 1), OUTSIDE);
        due("row", x.row(0, -1, 1), OUTSIDE);
        due("row", x.row(0, 6, 1), OUTSIDE);
        due("row", x.row(0, 0, 41), OUTSIDE);
        due("row", x.row(LOW, HIGH, LOW), OUTSIDE);
        due("row", x.row(0, 6, -1), OUTSIDE);
        due("row", x.row(0, 0, -1), SIZE);
        due("row", x.row(0, 0, LOW), SIZE);
        all(x, "2 0 0 40 0 0");
        fill(x, 1, LONGS, 5, 6, 7);
        due("refused row keeps all", x.row(1, LONGS, -1), SIZE);
        due("look", x.look(1, LONGS, 2), 7);
        due("row anew", x.row(1, LONGS, 2), 2);
        due("look", x.look(1, LONGS, 0), 0);
        due("look", x.look(1, LONGS, 2), INDEX);
        due("row anew", x.row(1, DOUBLES, 3), 3);
        due("put", x.put(1, 0, 3, 4), 0);
        due("mark", x.mark(1, 1, NO_NUMBER), 0);
        due("mark", x.mark(1, 2, MINUS_NOUGHT), 0);
        due("row anew", x.row(1, DOUBLES, 4), 4);
        for (int place = 0; place < 4; place++) {
            dueDouble("see", x.see(1, place), 0.0);
            due("compare", x.compare(1, place, 0.0), 2);
        }
    }

    private static void promise03Lose() {
        LongSums x = withRow(3, INTS, 1, 2, 3);
        due("lose", x.lose(-1), OUTSIDE);
        due("lose", x.lose(12), OUTSIDE);
        due("lose", x.lose(2), NOTHING);
        due("lose", x.lose(3), 3);
        due("lose", x.lose(3), NOTHING);
        due("look", x.look(3, INTS, 0), NOTHING);
        all(x, "0 0 0 0 0 0");
        due("row", x.row(3, INTS, 3), 3);
        due("look", x.look(3, INTS, 0), 0);
        due("row", x.row(4, DOUBLES, 0), 0);
        due("lose", x.lose(4), 0);
    }

    private static void promise04PutWholes() {
        LongSums x = new LongSums();
        for (int kind = BYTES; kind <= LONGS; kind++) {
            x.row(kind, kind, 2);
        }
        long m = (0x123456L << 24) | 0x89abcdL;
        due("put", x.put(0, 0, m, -1074), 0);
        due("put", x.put(1, 0, m, 971), 0);
        due("put", x.put(2, 0, -m, 5), 0);
        due("put", x.put(3, 0, -m, 5), 0);
        due("look", x.look(0, BYTES, 0), (byte) m);
        due("look", x.look(1, SHORTS, 0), (short) m);
        due("look", x.look(2, INTS, 0), (int) -m);
        due("look", x.look(3, LONGS, 0), -m);
        due("put", x.put(0, 1, 128, 0), 0);
        due("look", x.look(0, BYTES, 1), -128);
        due("put", x.put(1, 1, 32768, 0), 0);
        due("look", x.look(1, SHORTS, 1), -32768);
        due("put", x.put(2, 1, 1L << 31, 0), 0);
        due("look", x.look(2, INTS, 1), LOW);
        due("put", x.put(3, 1, (1L << 53) - 1, 0), 0);
        due("look", x.look(3, LONGS, 1), (1L << 53) - 1);
    }

    private static void promise04PutFloating() {
        LongSums x = new LongSums();
        x.row(4, FLOATS, 1);
        x.row(5, DOUBLES, 1);
        long[] wholes = {0, 1, -1, 3, -3, 16777217, -16777217, 16777219, 33554433, 33554435, 33554434,
            (1L << 53) - 1, -(1L << 53) + 1, 0x1fffffffL, 0x1ffffff0L, 0x1fffffefL, 0x1ffffff1L, 0xffffffL};
        int[] powers = {-1074, -1073, -1022, -203, -202, -201, -200, -178, -177, -176, -175, -174, -173, -172, -151, -150,
            -149, -148, -126, -1, 0, 1, 51, 74, 75, 76, 77, 99, 100, 101, 103, 104, 105, 126, 127, 128, 900, 970, 971};
        for (long m : wholes) {
            for (int e : powers) {
                double exact = m * Math.scalb(1.0, e);
                due("put", x.put(4, 0, m, e), 0);
                due("put", x.put(5, 0, m, e), 0);
                dueDouble("see the float " + m + ", " + e, x.see(4, 0), (float) exact);
                dueDouble("see the double " + m + ", " + e, x.see(5, 0), exact);
            }
        }
    }

    private static void promise04PutRefused() {
        LongSums x = withRow(0, DOUBLES, 7, 8);
        long limit = 1L << 53;
        due("put", x.put(-1, 0, 1, 0), OUTSIDE);
        due("put", x.put(12, 0, 1, 0), OUTSIDE);
        due("put", x.put(0, 0, limit, 0), OUTSIDE);
        due("put", x.put(0, 0, -limit, 0), OUTSIDE);
        due("put", x.put(0, 0, Long.MIN_VALUE, 0), OUTSIDE);
        due("put", x.put(0, 0, Long.MAX_VALUE, 0), OUTSIDE);
        due("put", x.put(0, 0, 1, -1075), OUTSIDE);
        due("put", x.put(0, 0, 1, 972), OUTSIDE);
        due("put", x.put(1, 0, 1, 972), OUTSIDE);
        due("put", x.put(1, 9, 1, 0), NOTHING);
        due("put", x.put(0, -1, 1, 0), INDEX);
        due("put", x.put(0, 2, 1, 0), INDEX);
        due("put", x.put(0, LOW, 1, 0), INDEX);
        due("put", x.put(0, HIGH, 1, 0), INDEX);
        dueDouble("see", x.see(0, 0), 7.0);
        dueDouble("see", x.see(0, 1), 8.0);
        due("put over a mark", x.mark(0, 0, NO_NUMBER) + x.put(0, 0, 5, 1), 0);
        dueDouble("see", x.see(0, 0), 10.0);
        due("compare", x.compare(0, 0, 10.0), 2);
    }

    private static void promise05Mark() {
        LongSums x = new LongSums();
        x.row(4, FLOATS, 6);
        x.row(5, DOUBLES, 6);
        x.row(3, LONGS, 1);
        double[] floats = {INFINITE, -INFINITE, 0.0, -0.0, Float.MAX_VALUE, Float.MIN_VALUE};
        double[] doubles = {INFINITE, -INFINITE, 0.0, -0.0, Double.MAX_VALUE, Double.MIN_VALUE};
        for (int what = ENDLESS_ABOVE; what <= LEAST; what++) {
            due("mark", x.mark(4, what, what), 0);
            due("mark", x.mark(5, what, what), 0);
            dueDouble("see", x.see(4, what), floats[what]);
            dueDouble("see", x.see(5, what), doubles[what]);
            due("compare", x.compare(5, what, doubles[what]), what == NO_NUMBER ? 0 : 2);
        }
        due("mark", x.mark(-1, 0, 0), OUTSIDE);
        due("mark", x.mark(12, 0, 0), OUTSIDE);
        due("mark", x.mark(4, 0, -1), OUTSIDE);
        due("mark", x.mark(4, 0, 6), OUTSIDE);
        due("mark", x.mark(0, 9, 6), OUTSIDE);
        due("mark", x.mark(0, 9, 0), NOTHING);
        due("mark", x.mark(3, 9, 0), CAST);
        due("mark", x.mark(4, -1, 2), INDEX);
        due("mark", x.mark(4, 6, 2), INDEX);
        due("mark", x.mark(4, HIGH, 2), INDEX);
        dueDouble("see", x.see(4, 5), Float.MIN_VALUE);
    }

    private static void promise06Copy() {
        LongSums x = withRow(0, DOUBLES, 10, 11, 12, 13, 14);
        fill(x, 1, DOUBLES, 20, 21, 22);
        fill(x, 2, FLOATS, 30, 31, 32);
        due("copy", x.copy(0, 1, 1, 0, 2), 2);
        dueDouble("see", x.see(1, 0), 11.0);
        dueDouble("see", x.see(1, 1), 12.0);
        dueDouble("see", x.see(1, 2), 22.0);
        due("copy on itself, up", x.copy(0, 0, 0, 1, 4), 4);
        for (int place = 0; place < 5; place++) {
            dueDouble("see", x.see(0, place), place == 0 ? 10.0 : 9.0 + place);
        }
        due("copy on itself, down", x.copy(0, 2, 0, 0, 3), 3);
        double[] left = {11, 12, 13, 12, 13};
        for (int place = 0; place < 5; place++) {
            dueDouble("see", x.see(0, place), left[place]);
        }
        x.mark(1, 0, MINUS_NOUGHT);
        x.mark(1, 1, NO_NUMBER);
        x.mark(1, 2, ENDLESS_BELOW);
        due("copy of marks", x.copy(1, 0, 0, 2, 3), 3);
        dueDouble("see", x.see(0, 2), -0.0);
        due("compare", x.compare(0, 3, 0.0), 0);
        dueDouble("see", x.see(0, 4), -INFINITE);
        due("copy of none", x.copy(0, 5, 1, 3, 0), 0);
        copyRefused(x);
    }

    private static void copyRefused(LongSums x) {
        due("copy", x.copy(-1, 0, 0, 0, 1), OUTSIDE);
        due("copy", x.copy(0, 0, 12, 0, 1), OUTSIDE);
        due("copy", x.copy(12, 0, 9, 0, 1), OUTSIDE);
        due("copy", x.copy(9, 0, 0, 0, -1), NOTHING);
        due("copy", x.copy(0, 0, 9, 0, 1), NOTHING);
        due("copy", x.copy(0, 0, 2, 0, -1), CAST);
        due("copy", x.copy(2, 9, 1, 9, 1), CAST);
        due("copy", x.copy(0, 0, 1, 0, -1), INDEX);
        due("copy", x.copy(0, 0, 1, 0, LOW), INDEX);
        due("copy", x.copy(0, 0, 1, 0, 4), INDEX);
        due("copy", x.copy(0, 3, 1, 0, 3), INDEX);
        due("copy", x.copy(0, -1, 1, 0, 1), INDEX);
        due("copy", x.copy(0, 0, 1, -1, 1), INDEX);
        due("copy", x.copy(0, 6, 1, 0, 0), INDEX);
        due("copy", x.copy(0, 0, 1, 4, 0), INDEX);
        due("copy", x.copy(0, 1, 1, 1, HIGH), INDEX);
        due("copy", x.copy(0, HIGH, 1, HIGH, HIGH), INDEX);
        dueDouble("see", x.see(0, 0), 11.0);
        dueDouble("see", x.see(0, 1), 12.0);
    }

    private static void promise07Look() {
        LongSums x = withRow(0, BYTES, -7, 300);
        fill(x, 3, LONGS, -11, 1L << 40);
        fill(x, 5, DOUBLES, 1);
        due("look", x.look(0, BYTES, 0), -7);
        due("look", x.look(0, BYTES, 1), 44);
        due("look", x.look(3, LONGS, 0), -11);
        due("look", x.look(3, LONGS, 1), 1L << 40);
        due("look", x.look(-1, BYTES, 0), OUTSIDE);
        due("look", x.look(12, BYTES, 0), OUTSIDE);
        due("look", x.look(0, -1, 0), OUTSIDE);
        due("look", x.look(5, DOUBLES, 0), OUTSIDE);
        due("look", x.look(5, FLOATS, 0), OUTSIDE);
        due("look", x.look(9, BYTES, 9), NOTHING);
        due("look", x.look(0, SHORTS, 9), CAST);
        due("look", x.look(5, LONGS, 0), CAST);
        due("look", x.look(0, BYTES, 2), INDEX);
        due("look", x.look(0, BYTES, -1), INDEX);
    }

    private static void promise08See() {
        LongSums x = withRow(4, FLOATS, 16777217, -3);
        fill(x, 5, DOUBLES, 16777217, -3);
        fill(x, 3, LONGS, 9);
        dueDouble("see", x.see(4, 0), 16777216.0);
        dueDouble("see", x.see(4, 1), -3.0);
        dueDouble("see", x.see(5, 0), 16777217.0);
        x.mark(5, 1, NO_NUMBER);
        dueDouble("see", x.see(5, 1), 0.0);
        dueDouble("see", x.see(3, 0), 0.0);
        dueDouble("see", x.see(0, 0), 0.0);
        dueDouble("see", x.see(-1, 0), 0.0);
        dueDouble("see", x.see(12, 0), 0.0);
        dueDouble("see", x.see(5, -1), 0.0);
        dueDouble("see", x.see(5, 2), 0.0);
        x.lose(4);
        dueDouble("see", x.see(4, 0), 0.0);
    }

    private static void promise09Compare() {
        LongSums x = withRow(0, BYTES, -3);
        fill(x, 3, LONGS, (1L << 53) - 1);
        fill(x, 5, DOUBLES, 1, 1, 1, 1);
        x.put(5, 0, 1, -1074);
        x.mark(5, 1, ENDLESS_ABOVE);
        x.mark(5, 2, NO_NUMBER);
        x.mark(5, 3, MINUS_NOUGHT);
        due("compare", x.compare(0, 0, -2.5), 1);
        due("compare", x.compare(0, 0, -3.0), 2);
        due("compare", x.compare(0, 0, -3.5), 3);
        due("compare", x.compare(0, 0, Double.NaN), 0);
        due("compare", x.compare(0, 0, -INFINITE), 3);
        due("compare", x.compare(0, 0, INFINITE), 1);
        due("compare", x.compare(3, 0, 9007199254740991.0), 2);
        due("compare", x.compare(3, 0, 9007199254740992.0), 1);
        due("compare", x.compare(5, 0, 0.0), 3);
        due("compare", x.compare(5, 0, Double.MIN_VALUE), 2);
        due("compare", x.compare(5, 0, Double.MIN_NORMAL), 1);
        due("compare", x.compare(5, 1, Double.MAX_VALUE), 3);
        due("compare", x.compare(5, 1, INFINITE), 2);
        due("compare", x.compare(5, 2, 0.0), 0);
        due("compare", x.compare(5, 2, Double.NaN), 0);
        due("compare", x.compare(5, 3, 0.0), 2);
        due("compare", x.compare(-1, 9, 0.0), OUTSIDE);
        due("compare", x.compare(12, 9, 0.0), OUTSIDE);
        due("compare", x.compare(1, 9, 0.0), NOTHING);
        due("compare", x.compare(0, 1, 0.0), INDEX);
        due("compare", x.compare(0, -1, 0.0), INDEX);
    }

    private static void promise10Keeper() {
        LongSums x = withRow(0, LONGS, 5);
        due("keeper", x.keeper(-1, SUMS), OUTSIDE);
        due("keeper", x.keeper(6, SUMS), OUTSIDE);
        due("keeper", x.keeper(0, -1), OUTSIDE);
        due("keeper", x.keeper(0, 3), OUTSIDE);
        all(x, "1 0 0 1 0 0");
        due("keeper", x.keeper(0, SUMS), 0);
        due("keeper", x.keeper(5, SQUARES), 0);
        due("sign", x.sign(0), 0);
        due("add", x.add(0, 0, 0, 1), 1);
        due("refused", x.keeper(0, 3), OUTSIDE);
        dueDouble("tell", x.tell(0, 0, false), 5.0);
        due("keeper anew", x.keeper(0, PAIRS), 0);
        due("sign", x.sign(0), 0);
        due("add", x.add(0, 0, 0, 1), CAST);
        all(x, "1 2 4 1 1 0");
    }

    private static void promise11Add() {
        LongSums x = withRow(0, LONGS, 1, 20, 300, -4000);
        fill(x, 1, BYTES, -1, 127, -128);
        x.keeper(0, SUMS);
        x.keeper(1, PAIRS);
        x.keeper(2, SQUARES);
        due("add", x.add(0, 0, 1, 2), 2);
        dueDouble("tell", x.tell(0, 0, false), 320.0);
        due("add", x.add(0, 0, 0, -4), 4);
        dueDouble("tell", x.tell(0, 0, false), 3999.0);
        due("add", x.add(0, 1, 0, 3), 3);
        dueDouble("tell", x.tell(0, 0, false), 3997.0);
        due("add", x.add(2, 0, 2, 2), 2);
        dueDouble("tell", x.tell(2, 0, false), 16090000.0);
        due("add", x.add(2, 0, 2, -1), 1);
        dueDouble("tell", x.tell(2, 0, false), 16000000.0);
        due("add of none", x.add(0, 0, 4, 0), 0);
        addRefused(x);
        dueDouble("tell", x.tell(0, 0, false), 3997.0);
        all(x, "2 3 9 7 12 0");
    }

    private static void addRefused(LongSums x) {
        due("add", x.add(-1, 0, 0, 1), OUTSIDE);
        due("add", x.add(6, 0, 0, 1), OUTSIDE);
        due("add", x.add(0, -1, 0, 1), OUTSIDE);
        due("add", x.add(0, 12, 0, 1), OUTSIDE);
        due("add", x.add(3, 9, 0, 41), OUTSIDE);
        due("add", x.add(3, 9, 0, -41), OUTSIDE);
        due("add", x.add(0, 0, 0, LOW), OUTSIDE);
        due("add", x.add(3, 0, 0, 1), NOTHING);
        due("add", x.add(0, 9, 0, 1), NOTHING);
        due("add", x.add(1, 9, 0, 1), NOTHING);
        due("add", x.add(1, 0, 9, 9), CAST);
        due("add", x.add(0, 0, -1, 1), INDEX);
        due("add", x.add(0, 0, 4, 1), INDEX);
        due("add", x.add(0, 0, 0, 5), INDEX);
        due("add", x.add(0, 0, 0, -5), INDEX);
        due("add", x.add(0, 0, 5, 0), INDEX);
        due("add", x.add(0, 0, 2, -3), INDEX);
        due("add", x.add(0, 0, HIGH, 40), INDEX);
        due("add", x.add(0, 0, LOW, -40), INDEX);
    }

    private static void promise11AddEndless() {
        LongSums x = new LongSums();
        x.row(0, DOUBLES, 4);
        x.mark(0, 0, ENDLESS_ABOVE);
        x.mark(0, 1, ENDLESS_BELOW);
        x.mark(0, 2, NO_NUMBER);
        x.mark(0, 3, MINUS_NOUGHT);
        x.keeper(0, SUMS);
        x.keeper(2, SQUARES);
        x.add(0, 0, 0, 1);
        seenIs(x, 0, 0, 1, 0);
        x.add(0, 0, 0, -1);
        seenIs(x, 0, 0, 1, 1);
        x.add(0, 0, 1, -1);
        seenIs(x, 0, 0, 2, 1);
        x.add(0, 0, 1, 1);
        seenIs(x, 0, 0, 2, 2);
        x.add(0, 0, 2, -2);
        seenIs(x, 0, 1, 2, 2);
        x.add(0, 0, 2, 2);
        seenIs(x, 0, 2, 2, 2);
        due("sign", x.sign(0), 0);
        x.add(2, 0, 0, 4);
        seenIs(x, 2, 1, 2, 0);
        x.add(2, 0, 1, -1);
        seenIs(x, 2, 1, 2, 1);
    }

    private static void seenIs(LongSums x, int keeper, int noNumbers, int above, int below) {
        due("seen 0", x.seen(keeper, 0), noNumbers);
        due("seen 1", x.seen(keeper, 1), above);
        due("seen 2", x.seen(keeper, 2), below);
    }

    private static void promise12Pair() {
        LongSums x = withRow(0, LONGS, 2, 3, 5);
        fill(x, 1, DOUBLES, 7, -11);
        x.keeper(0, SUMS);
        x.keeper(1, PAIRS);
        x.keeper(2, SQUARES);
        due("pair", x.pair(1, 0, 1, 0, 2), 2);
        dueDouble("tell", x.tell(1, 0, false), -19.0);
        due("pair", x.pair(1, 1, 0, 1, -1), 1);
        dueDouble("tell", x.tell(1, 0, false), 14.0);
        due("pair", x.pair(2, 0, 0, 0, 3), 3);
        dueDouble("tell", x.tell(2, 0, false), 38.0);
        due("pair of none", x.pair(2, 0, 1, 2, 0), 0);
        pairRefused(x);
        dueDouble("tell", x.tell(1, 0, false), 14.0);
        all(x, "2 3 7 5 6 0");
    }

    private static void pairRefused(LongSums x) {
        due("pair", x.pair(-1, 0, 1, 0, 1), OUTSIDE);
        due("pair", x.pair(6, 0, 1, 0, 1), OUTSIDE);
        due("pair", x.pair(3, 12, 1, 0, 1), OUTSIDE);
        due("pair", x.pair(3, 0, -1, 0, 1), OUTSIDE);
        due("pair", x.pair(3, 9, 1, 0, 41), OUTSIDE);
        due("pair", x.pair(3, 9, 1, 0, -41), OUTSIDE);
        due("pair", x.pair(3, 0, 1, 0, 1), NOTHING);
        due("pair", x.pair(0, 9, 1, 0, 1), NOTHING);
        due("pair", x.pair(0, 0, 9, 9, 1), NOTHING);
        due("pair", x.pair(0, 0, 1, 9, 1), CAST);
        due("pair", x.pair(1, 0, 1, 0, 3), INDEX);
        due("pair", x.pair(1, 1, 0, 0, -3), INDEX);
        due("pair", x.pair(1, 0, 1, 2, 1), INDEX);
        due("pair", x.pair(1, 1, 0, 2, 1), INDEX);
        due("pair", x.pair(1, 0, 1, 3, 0), INDEX);
        due("pair", x.pair(1, 0, 1, -1, 1), INDEX);
        due("pair", x.pair(1, 0, 1, HIGH, 1), INDEX);
    }

    // What each kind of number times each is: 0 a number, 1 and 2 endless above and below, 3 no number.
    private static void promise12PairEndless() {
        int[][] products = {
            {1, 2, 3, 3, 1, 2},
            {2, 1, 3, 3, 2, 1},
            {3, 3, 3, 3, 3, 3},
            {3, 3, 3, 0, 0, 0},
            {1, 2, 3, 0, 0, 0},
            {2, 1, 3, 0, 0, 0}};
        LongSums x = new LongSums();
        for (int row = 0; row <= 1; row++) {
            x.row(row, DOUBLES, 6);
            for (int what = ENDLESS_ABOVE; what <= GREATEST; what++) {
                x.mark(row, what, what);
            }
            x.put(row, 5, -1, -1074);
        }
        x.row(2, DOUBLES, 1);
        x.row(3, DOUBLES, 1);
        for (int one = 0; one < 6; one++) {
            for (int other = 0; other < 6; other++) {
                x.copy(0, one, 2, 0, 1);
                x.copy(1, other, 3, 0, 1);
                x.keeper(0, PAIRS);
                x.pair(0, 2, 3, 0, 1);
                due("sort of " + one + " times " + other, x.sort(0), products[one][other]);
                x.keeper(0, SQUARES);
                x.pair(0, 2, 3, 0, -1);
                int sort = products[one][other];
                due("sort taken of " + one + " times " + other, x.sort(0), sort == 1 ? 2 : sort == 2 ? 1 : sort);
            }
        }
    }

    private static void promise13Merge() {
        LongSums x = withRow(0, DOUBLES, 3, 0, 0);
        x.mark(0, 1, ENDLESS_ABOVE);
        x.mark(0, 2, NO_NUMBER);
        x.keeper(0, SUMS);
        x.keeper(1, SUMS);
        x.keeper(2, PAIRS);
        x.keeper(3, SQUARES);
        x.add(0, 0, 0, 2);
        x.add(1, 0, 0, -3);
        due("merge", x.merge(1, 0), 0);
        seenIs(x, 1, 1, 1, 1);
        due("sign", x.sign(1), 0);
        seenIs(x, 0, 0, 1, 0);
        due("merge with itself", x.merge(0, 0), 0);
        seenIs(x, 0, 0, 2, 0);
        due("high", x.high(0), 2);
        x.add(3, 0, 0, 1);
        due("merge", x.merge(2, 3), 0);
        due("merge", x.merge(3, 2), 0);
        dueDouble("tell", x.tell(3, 0, false), 18.0);
        dueDouble("tell", x.tell(2, 0, false), 9.0);
        due("merge", x.merge(-1, 0), OUTSIDE);
        due("merge", x.merge(0, 6), OUTSIDE);
        due("merge", x.merge(6, 4), OUTSIDE);
        due("merge", x.merge(4, 0), NOTHING);
        due("merge", x.merge(0, 4), NOTHING);
        due("merge", x.merge(0, 2), CAST);
        due("merge", x.merge(3, 0), CAST);
        due("count", x.count(2), 11);
    }

    private static void promise13MergeMostSeen() {
        LongSums x = new LongSums();
        x.row(0, FLOATS, 3);
        x.mark(0, 0, ENDLESS_ABOVE);
        x.mark(0, 1, ENDLESS_BELOW);
        x.mark(0, 2, NO_NUMBER);
        x.keeper(0, SUMS);
        x.add(0, 0, 0, 3);
        for (int i = 0; i < 29; i++) {
            x.merge(0, 0);
        }
        seenIs(x, 0, 536870912, 536870912, 536870912);
        x.merge(0, 0);
        seenIs(x, 0, 1000000000, 1000000000, 1000000000);
        x.merge(0, 0);
        x.add(0, 0, 0, 3);
        x.add(0, 0, 0, -3);
        seenIs(x, 0, 1000000000, 1000000000, 1000000000);
    }

    private static void promise14Clear() {
        LongSums x = withRow(0, DOUBLES, 3, 0);
        x.mark(0, 1, NO_NUMBER);
        x.keeper(0, SQUARES);
        x.keeper(1, SUMS);
        x.add(0, 0, 0, 2);
        due("clear", x.clear(-1), OUTSIDE);
        due("clear", x.clear(6), OUTSIDE);
        due("clear", x.clear(5), NOTHING);
        due("sort", x.sort(0), 3);
        due("clear", x.clear(0), 0);
        seenIs(x, 0, 0, 0, 0);
        due("sign", x.sign(0), 0);
        due("still of squares", x.add(0, 0, 0, 1), 1);
        dueDouble("tell", x.tell(0, 0, false), 9.0);
        due("clear of nought", x.clear(1), 0);
        due("count", x.count(2), 6);
        due("undo", x.undo(), 1);
    }

    private static void promise15Error() {
        LongSums x = withRow(0, DOUBLES, 1, 1, 1, -1);
        x.put(0, 1, 1, -53);
        x.put(0, 2, 1, -53);
        x.keeper(0, SUMS);
        x.keeper(1, SQUARES);
        x.keeper(2, PAIRS);
        x.add(0, 0, 0, 4);
        due("error", x.error(0, 0, 0, 3), 3);
        dueDouble("tell", x.tell(0, 0, false), 0x1p-52);
        due("error", x.error(0, 0, 1, 2), 2);
        dueDouble("tell", x.tell(0, 0, false), 0.0);
        due("error of none", x.error(0, 0, 4, 0), 0);
        due("count", x.count(4), 9);
        due("undo", x.undo(), 0);
        due("undo", x.undo(), 0);
        dueDouble("tell", x.tell(0, 0, false), 0x1p-52);
        errorRefused(x);
        dueDouble("tell", x.tell(0, 0, false), 0x1p-52);
        due("count", x.count(4), 9);
    }

    private static void errorRefused(LongSums x) {
        due("error", x.error(-1, 0, 0, 1), OUTSIDE);
        due("error", x.error(6, 0, 0, 1), OUTSIDE);
        due("error", x.error(0, 12, 0, 1), OUTSIDE);
        due("error", x.error(3, 9, 0, 41), OUTSIDE);
        due("error", x.error(3, 9, 0, -1), OUTSIDE);
        due("error", x.error(3, 0, 0, 1), NOTHING);
        due("error", x.error(1, 9, 0, 1), NOTHING);
        due("error", x.error(1, 0, 9, 1), CAST);
        due("error", x.error(2, 0, 9, 1), CAST);
        due("error", x.error(0, 0, 4, 1), INDEX);
        due("error", x.error(0, 0, 0, 5), INDEX);
        due("error", x.error(0, 0, -1, 1), INDEX);
        due("error", x.error(0, 0, 5, 0), INDEX);
    }

    private static void promise15ErrorEndless() {
        LongSums x = new LongSums();
        x.row(0, DOUBLES, 4);
        x.mark(0, 0, GREATEST);
        x.mark(0, 1, GREATEST);
        x.mark(0, 2, ENDLESS_ABOVE);
        x.mark(0, 3, NO_NUMBER);
        x.keeper(0, SUMS);
        due("error beyond the greatest", x.error(0, 0, 0, 2), 2);
        seenIs(x, 0, 0, 0, 1);
        due("high", x.high(0), 1024);
        x.error(0, 0, 2, 1);
        seenIs(x, 0, 0, 1, 1);
        x.error(0, 0, 1, 3);
        seenIs(x, 0, 1, 1, 0);
        due("high", x.high(0), 1023);
        x.mark(0, 2, ENDLESS_BELOW);
        x.error(0, 0, 1, 2);
        seenIs(x, 0, 0, 1, 1);
        x.error(0, 0, 1, 1);
        due("sort of the greatest alone", x.sort(0), 0);
        due("sign", x.sign(0), 0);
        x.put(0, 0, -1, -1074);
        x.put(0, 1, 3, -1074);
        x.error(0, 0, 0, 2);
        due("sign", x.sign(0), 0);
        x.put(0, 0, -(1L << 53) + 1, 971);
        x.put(0, 1, -1, 0);
        x.error(0, 0, 0, 2);
        dueDouble("tell", x.tell(0, 0, false), -1.0);
    }

    // A row of 40 places is used whole by each call that takes places.
    private static void promises11to16WholeRow() {
        LongSums x = new LongSums();
        x.row(0, DOUBLES, 40);
        for (int place = 0; place < 40; place++) {
            x.put(0, place, 1, place);
        }
        double all = 0x1p40 - 1.0;
        x.keeper(0, SUMS);
        x.keeper(1, PAIRS);
        due("add", x.add(0, 0, 0, 40), 40);
        dueDouble("tell", x.tell(0, 0, false), all);
        due("add", x.add(0, 0, 0, -40), 40);
        due("sign", x.sign(0), 0);
        due("pair", x.pair(1, 0, 0, 0, 40), 40);
        due("high", x.high(1), 78);
        due("pair", x.pair(1, 0, 0, 0, -40), 40);
        due("sign", x.sign(1), 0);
        dueDouble("plain", x.plain(0, 0, 40), all);
        due("error", x.error(0, 0, 0, 40), 40);
        due("sign", x.sign(0), 0);
        due("copy", x.copy(0, 0, 0, 1, 39), 39);
        dueDouble("plain", x.plain(0, 0, 40), 0x1p39);
    }

    private static void promise16Plain() {
        LongSums x = withRow(0, DOUBLES, 1, 1, 1, -1);
        x.put(0, 1, 1, -53);
        x.put(0, 2, 1, -53);
        dueDouble("plain", x.plain(0, 0, 4), 0.0);
        dueDouble("plain", x.plain(0, 0, 3), 1.0);
        dueDouble("plain", x.plain(0, 1, 2), 0x1p-52);
        dueDouble("plain of none", x.plain(0, 4, 0), 0.0);
        dueDouble("plain", x.plain(-1, 0, 3), 0.0);
        dueDouble("plain", x.plain(12, 0, 3), 0.0);
        dueDouble("plain", x.plain(1, 0, 3), 0.0);
        dueDouble("plain", x.plain(0, 0, -3), 0.0);
        dueDouble("plain", x.plain(0, 0, 41), 0.0);
        dueDouble("plain", x.plain(0, 0, 5), 0.0);
        dueDouble("plain", x.plain(0, -1, 3), 0.0);
        dueDouble("plain", x.plain(0, HIGH, 40), 0.0);
        fill(x, 1, LONGS, (1L << 53) - 1, (1L << 53) - 1, 1);
        dueDouble("plain", x.plain(1, 0, 2), 18014398509481982.0);
        dueDouble("plain of a tie", x.plain(1, 0, 3), 18014398509481984.0);
        x.mark(0, 0, GREATEST);
        x.mark(0, 1, GREATEST);
        x.mark(0, 2, ENDLESS_BELOW);
        x.mark(0, 3, MINUS_NOUGHT);
        dueDouble("plain beyond", x.plain(0, 0, 2), INFINITE);
        dueDouble("plain beyond and back", x.plain(0, 0, 3), 0.0);
        dueDouble("plain endless", x.plain(0, 1, 3), -INFINITE);
        dueDouble("plain of -0.0", x.plain(0, 3, 1), 0.0);
        x.put(0, 3, -(1L << 53) + 1, 971);
        x.copy(0, 3, 0, 2, 1);
        dueDouble("plain endless less the greatest", x.plain(0, 0, 4), INFINITE);
        x.copy(0, 3, 0, 0, 1);
        x.copy(0, 3, 0, 1, 1);
        x.mark(0, 2, GREATEST);
        dueDouble("plain endless below and the greatest", x.plain(0, 0, 3), -INFINITE);
        x.mark(0, 2, ENDLESS_ABOVE);
        dueDouble("plain endless below and above", x.plain(0, 0, 3), 0.0);
        x.mark(0, 1, NO_NUMBER);
        dueDouble("plain of no number", x.plain(0, 0, 2), 0.0);
    }

    private static void promise17and18SortAndSeen() {
        LongSums x = new LongSums();
        x.row(0, DOUBLES, 3);
        x.mark(0, 0, ENDLESS_ABOVE);
        x.mark(0, 1, ENDLESS_BELOW);
        x.mark(0, 2, NO_NUMBER);
        x.keeper(0, SUMS);
        due("sort", x.sort(0), 0);
        x.add(0, 0, 0, 1);
        due("sort", x.sort(0), 1);
        x.clear(0);
        x.add(0, 0, 1, 1);
        due("sort", x.sort(0), 2);
        x.add(0, 0, 0, 1);
        due("sort", x.sort(0), 3);
        x.clear(0);
        x.add(0, 0, 2, 1);
        due("sort", x.sort(0), 3);
        due("sort", x.sort(-1), OUTSIDE);
        due("sort", x.sort(6), OUTSIDE);
        due("sort", x.sort(1), NOTHING);
        seenIs(x, 0, 1, 0, 0);
        due("seen", x.seen(-1, 0), OUTSIDE);
        due("seen", x.seen(6, 0), OUTSIDE);
        due("seen", x.seen(1, 3), OUTSIDE);
        due("seen", x.seen(0, -1), OUTSIDE);
        due("seen", x.seen(1, 2), NOTHING);
    }

    private static void tells(LongSums x, int keeper, boolean isFloat, double... wants) {
        for (int way = 0; way <= 3; way++) {
            dueDouble("tell by " + way + (isFloat ? " to a float" : ""), x.tell(keeper, way, isFloat), wants[way]);
        }
    }

    private static LongSums withNumbers(long... parts) {
        LongSums x = new LongSums();
        x.row(0, DOUBLES, parts.length / 2);
        for (int i = 0; i < parts.length / 2; i++) {
            due("put", x.put(0, i, parts[2 * i], (int) parts[2 * i + 1]), 0);
        }
        x.keeper(0, SUMS);
        x.keeper(1, SUMS);
        x.add(0, 0, 0, parts.length / 2);
        x.add(1, 0, 0, -parts.length / 2);
        return x;
    }

    private static void promise19Tell() {
        double above = Math.nextUp(1.0);
        LongSums x = withNumbers(1, 0, 1, -53);
        tells(x, 0, false, 1.0, 1.0, above, 1.0);
        tells(x, 1, false, -1.0, -1.0, -1.0, -above);
        x = withNumbers(3, -53, 1, 0);
        tells(x, 0, false, Math.nextUp(above), above, Math.nextUp(above), above);
        x = withNumbers(1, 0, 1, -53, 1, -1074);
        tells(x, 0, false, above, 1.0, above, 1.0);
        tells(x, 1, false, -above, -1.0, -1.0, -above);
        x = withNumbers(1, 0, 1, -24);
        tells(x, 0, true, 1.0, 1.0, Math.nextUp(1.0f), 1.0);
        x = withNumbers(1, 0, 1, -24, 1, -1074);
        tells(x, 0, true, Math.nextUp(1.0f), 1.0, Math.nextUp(1.0f), 1.0);
        tells(x, 1, true, -Math.nextUp(1.0f), -1.0, -1.0, -Math.nextUp(1.0f));
        x = withNumbers(5, 0, -5, 0);
        tells(x, 0, false, 0.0, 0.0, 0.0, 0.0);
        tells(x, 0, true, 0.0, 0.0, 0.0, 0.0);
    }

    private static void promise19TellEdges() {
        double most = Double.MAX_VALUE;
        double mostFloat = Float.MAX_VALUE;
        double leastFloat = Float.MIN_VALUE;
        long full = (1L << 53) - 1;
        LongSums x = withNumbers(full, 971, 1, 970);
        tells(x, 0, false, INFINITE, most, INFINITE, most);
        tells(x, 1, false, -INFINITE, -most, -most, -INFINITE);
        tells(x, 0, true, INFINITE, mostFloat, INFINITE, mostFloat);
        x = withNumbers(full, 971, 1, 970, -1, -1074);
        tells(x, 0, false, most, most, INFINITE, most);
        tells(x, 1, false, -most, -most, -most, -INFINITE);
        x = withNumbers(full, 971);
        tells(x, 0, false, most, most, most, most);
        x = withNumbers(0xffffff, 104, 1, 103);
        tells(x, 0, true, INFINITE, mostFloat, INFINITE, mostFloat);
        tells(x, 1, true, -INFINITE, -mostFloat, -mostFloat, -INFINITE);
        x = withNumbers(0xffffff, 104, 1, 103, -1, -1074);
        tells(x, 0, true, mostFloat, mostFloat, INFINITE, mostFloat);
        x = withNumbers(1, -150);
        tells(x, 0, true, 0.0, 0.0, leastFloat, 0.0);
        tells(x, 1, true, 0.0, 0.0, 0.0, -leastFloat);
        x = withNumbers(1, -150, 1, -1074);
        tells(x, 0, true, leastFloat, 0.0, leastFloat, 0.0);
        tells(x, 1, true, -leastFloat, 0.0, 0.0, -leastFloat);
        x = withNumbers(3, -150);
        tells(x, 0, true, 2 * leastFloat, leastFloat, 2 * leastFloat, leastFloat);
        x = withNumbers(1, -1074);
        tells(x, 0, false, Double.MIN_VALUE, Double.MIN_VALUE, Double.MIN_VALUE, Double.MIN_VALUE);
        tells(x, 1, true, 0.0, 0.0, 0.0, -leastFloat);
    }

    private static void promise19TellOfPairs() {
        LongSums x = new LongSums();
        x.row(0, DOUBLES, 3);
        x.row(1, DOUBLES, 3);
        x.put(0, 0, 1, -1074);
        x.put(1, 0, 1, -1074);
        x.put(0, 1, 1, -1074);
        x.put(1, 1, 1, -1);
        x.put(0, 2, 1, 971);
        x.put(1, 2, -3, 971);
        x.keeper(0, PAIRS);
        x.pair(0, 0, 1, 0, 1);
        due("high", x.high(0), -2148);
        tells(x, 0, false, 0.0, 0.0, Double.MIN_VALUE, 0.0);
        x.pair(0, 0, 1, 1, 1);
        tells(x, 0, false, Double.MIN_VALUE, 0.0, Double.MIN_VALUE, 0.0);
        x.pair(0, 0, 1, 0, -1);
        tells(x, 0, false, 0.0, 0.0, Double.MIN_VALUE, 0.0);
        x.pair(0, 0, 1, 2, 1);
        tells(x, 0, false, -INFINITE, -Double.MAX_VALUE, -Double.MAX_VALUE, -INFINITE);
    }

    private static void promise19TellElse() {
        LongSums x = new LongSums();
        x.row(0, DOUBLES, 3);
        x.mark(0, 0, ENDLESS_ABOVE);
        x.mark(0, 1, ENDLESS_BELOW);
        x.put(0, 2, 1, 0);
        x.keeper(0, SUMS);
        x.keeper(1, SUMS);
        x.keeper(2, SUMS);
        x.add(0, 0, 0, 1);
        x.add(0, 0, 2, 1);
        x.add(1, 0, 1, 2);
        x.add(2, 0, 0, 3);
        tells(x, 0, false, INFINITE, INFINITE, INFINITE, INFINITE);
        tells(x, 1, true, -INFINITE, -INFINITE, -INFINITE, -INFINITE);
        tells(x, 2, false, 0.0, 0.0, 0.0, 0.0);
        dueDouble("tell", x.tell(0, -1, false), 0.0);
        dueDouble("tell", x.tell(0, 4, false), 0.0);
        dueDouble("tell", x.tell(-1, 0, false), 0.0);
        dueDouble("tell", x.tell(6, 0, false), 0.0);
        dueDouble("tell", x.tell(5, 0, false), 0.0);
    }

    private static void promise20Mean() {
        LongSums x = withNumbers(10, 0);
        dueDouble("mean", x.mean(0, 1, 0), 10.0);
        dueDouble("mean", x.mean(0, 4, 0), 2.5);
        dueDouble("mean", x.mean(0, 3, 0), 10.0 / 3.0);
        dueDouble("mean", x.mean(0, 3, 1), Math.nextDown(10.0 / 3.0));
        dueDouble("mean", x.mean(0, 3, 2), 10.0 / 3.0);
        dueDouble("mean", x.mean(0, 3, 3), Math.nextDown(10.0 / 3.0));
        dueDouble("mean", x.mean(1, 3, 1), -Math.nextDown(10.0 / 3.0));
        dueDouble("mean", x.mean(1, 3, 2), -Math.nextDown(10.0 / 3.0));
        dueDouble("mean", x.mean(1, 3, 3), -10.0 / 3.0);
        dueDouble("mean", x.mean(0, 1000000, 0), 0.00001);
        dueDouble("mean", x.mean(0, 1000001, 0), 0.0);
        dueDouble("mean", x.mean(0, 0, 0), 0.0);
        dueDouble("mean", x.mean(0, -1, 0), 0.0);
        dueDouble("mean", x.mean(0, LOW, 0), 0.0);
        dueDouble("mean", x.mean(0, 3, 4), 0.0);
        dueDouble("mean", x.mean(0, 3, -1), 0.0);
        dueDouble("mean", x.mean(-1, 3, 0), 0.0);
        dueDouble("mean", x.mean(6, 3, 0), 0.0);
        dueDouble("mean", x.mean(5, 3, 0), 0.0);
    }

    private static void promise20MeanEdges() {
        LongSums x = withNumbers(3, -1074);
        dueDouble("mean of a tie", x.mean(0, 2, 0), 2 * Double.MIN_VALUE);
        dueDouble("mean", x.mean(0, 2, 1), Double.MIN_VALUE);
        dueDouble("mean", x.mean(0, 6, 0), 0.0);
        dueDouble("mean", x.mean(0, 5, 0), Double.MIN_VALUE);
        dueDouble("mean", x.mean(1, 7, 0), 0.0);
        dueDouble("mean", x.mean(1, 7, 2), 0.0);
        dueDouble("mean", x.mean(1, 7, 3), -Double.MIN_VALUE);
        long full = (1L << 53) - 1;
        x = withNumbers(full, 971, full, 971, full, 971);
        dueDouble("mean of the greatest", x.mean(0, 3, 2), Double.MAX_VALUE);
        dueDouble("mean beyond", x.mean(0, 2, 3), Double.MAX_VALUE);
        dueDouble("mean beyond", x.mean(0, 2, 0), INFINITE);
        x.mark(0, 0, ENDLESS_BELOW);
        x.add(0, 0, 0, 1);
        dueDouble("mean of endless", x.mean(0, 3, 1), -INFINITE);
        dueDouble("mean of endless", x.mean(0, 0, 1), 0.0);
        x.add(0, 0, 0, -1);
        dueDouble("mean of no number", x.mean(0, 3, 1), 0.0);
        x.row(1, DOUBLES, 1);
        x.put(1, 0, 1, -1074);
        x.keeper(2, SQUARES);
        x.add(2, 1, 0, 1);
        dueDouble("mean of the least sum", x.mean(2, 2, 2), Double.MIN_VALUE);
        dueDouble("mean of the least sum", x.mean(2, 2, 0), 0.0);
        dueDouble("mean of the least sum", x.mean(2, 2, 3), 0.0);
    }

    private static void lengths(LongSums x, int keeper, double down, double up) {
        dueDouble("length", x.length(keeper, false), down);
        dueDouble("length up", x.length(keeper, true), up);
    }

    private static void promise21Length() {
        LongSums x = withRow(0, DOUBLES, 3, 4, 1, 1, 0);
        x.put(0, 2, 1, -1074);
        x.mark(0, 3, GREATEST);
        x.keeper(0, SQUARES);
        lengths(x, 0, 0.0, 0.0);
        x.add(0, 0, 0, 2);
        lengths(x, 0, 5.0, 5.0);
        x.add(0, 0, 2, 1);
        lengths(x, 0, 5.0, Math.nextUp(5.0));
        x.add(0, 0, 2, -1);
        x.add(0, 0, 2, -1);
        lengths(x, 0, Math.nextDown(5.0), 5.0);
        x.clear(0);
        x.add(0, 0, 2, 1);
        lengths(x, 0, Double.MIN_VALUE, Double.MIN_VALUE);
        x.add(0, 0, 2, 1);
        lengths(x, 0, Double.MIN_VALUE, 2 * Double.MIN_VALUE);
        x.clear(0);
        x.add(0, 0, 3, 1);
        lengths(x, 0, Double.MAX_VALUE, Double.MAX_VALUE);
        x.add(0, 0, 2, 1);
        lengths(x, 0, Double.MAX_VALUE, INFINITE);
        x.add(0, 0, 3, 1);
        lengths(x, 0, Double.MAX_VALUE, INFINITE);
        x.keeper(1, PAIRS);
        x.row(1, DOUBLES, 1);
        x.row(2, DOUBLES, 1);
        x.put(1, 0, 2, 0);
        x.put(2, 0, 1, 0);
        x.pair(1, 1, 2, 0, 1);
        lengths(x, 1, Math.nextDown(Math.sqrt(2.0)), Math.sqrt(2.0));
    }

    private static void promise21LengthElse() {
        LongSums x = withRow(0, DOUBLES, 3, 0, 0);
        x.mark(0, 1, ENDLESS_ABOVE);
        x.mark(0, 2, NO_NUMBER);
        x.keeper(0, SQUARES);
        x.keeper(1, SUMS);
        x.keeper(2, PAIRS);
        x.keeper(3, SQUARES);
        x.add(0, 0, 0, -1);
        lengths(x, 0, 0.0, 0.0);
        x.add(1, 0, 0, 1);
        lengths(x, 1, 0.0, 0.0);
        x.pair(2, 0, 0, 0, 2);
        lengths(x, 2, INFINITE, INFINITE);
        x.add(3, 0, 1, -1);
        lengths(x, 3, 0.0, 0.0);
        x.merge(3, 2);
        lengths(x, 3, 0.0, 0.0);
        x.add(0, 0, 2, 1);
        x.add(0, 0, 0, 1);
        x.add(0, 0, 0, 1);
        lengths(x, 0, 0.0, 0.0);
        lengths(x, -1, 0.0, 0.0);
        lengths(x, 6, 0.0, 0.0);
        lengths(x, 5, 0.0, 0.0);
    }

    private static void promise22and23SignAndHigh() {
        LongSums x = withNumbers(5, -1);
        due("sign", x.sign(0), 1);
        due("sign", x.sign(1), 2);
        due("high", x.high(0), 1);
        due("high", x.high(1), 1);
        x.add(1, 0, 0, 1);
        due("sign", x.sign(1), 0);
        due("high", x.high(1), -10000);
        x = withNumbers(1, -1074);
        due("high", x.high(0), -1074);
        due("sign", x.sign(1), 2);
        x.mark(0, 0, ENDLESS_ABOVE);
        x.add(1, 0, 0, 1);
        due("sign of the sum of what is endless", x.sign(1), 2);
        due("sign", x.sign(-1), OUTSIDE);
        due("sign", x.sign(6), OUTSIDE);
        due("sign", x.sign(5), NOTHING);
        due("high", x.high(-1), OUTSIDE - 9999);
        due("high", x.high(6), OUTSIDE - 9999);
        due("high", x.high(5), NOTHING - 9999);
    }

    // The greatest product, doubled in nearly all calls that an object has.
    private static void promise23HighFarUp() {
        LongSums x = new LongSums();
        x.row(0, DOUBLES, 1);
        x.mark(0, 0, GREATEST);
        x.keeper(0, SQUARES);
        x.keeper(1, SQUARES);
        x.add(0, 0, 0, 1);
        x.add(1, 0, 0, -1);
        for (int i = 0; i < 165; i++) {
            x.merge(0, 0);
            x.merge(1, 1);
            due("bit", x.bit(0, 2200), i >= 152 ? 1 : 0);
        }
        due("high", x.high(0), 2047 + 165);
        due("high", x.high(1), 2047 + 165);
        due("sign", x.sign(1), 2);
        due("order", x.order(1, 0), 2);
        due("merge", x.merge(1, 0), 0);
        due("sign", x.sign(1), 0);
    }

    private static void promise24Bit() {
        LongSums x = withNumbers(-5, 0, 1, -1074);
        due("bit", x.bit(0, 0), 0);
        due("bit", x.bit(0, 1), 0);
        due("bit", x.bit(0, 2), 1);
        due("bit", x.bit(0, 3), 0);
        due("bit", x.bit(0, -1), 1);
        due("bit", x.bit(0, -1073), 1);
        due("bit", x.bit(0, -1074), 1);
        due("bit", x.bit(0, -1075), 0);
        due("bit", x.bit(1, -1074), 1);
        due("bit", x.bit(1, 2), 1);
        due("bit", x.bit(0, -2148), 0);
        due("bit", x.bit(0, 2200), 0);
        due("bit", x.bit(0, -2149), OUTSIDE);
        due("bit", x.bit(5, 2201), OUTSIDE);
        due("bit", x.bit(0, LOW), OUTSIDE);
        due("bit", x.bit(0, HIGH), OUTSIDE);
        due("bit", x.bit(-1, 0), OUTSIDE);
        due("bit", x.bit(6, 0), OUTSIDE);
        due("bit", x.bit(5, 0), NOTHING);
        x.keeper(2, SQUARES);
        x.add(2, 0, 1, 1);
        due("bit", x.bit(2, -2148), 1);
    }

    private static void promise25Order() {
        LongSums x = withNumbers(1, 600, 1, -1074);
        x.keeper(2, SQUARES);
        due("order", x.order(0, 1), 3);
        due("order", x.order(1, 0), 2);
        due("order", x.order(0, 0), 1);
        due("order", x.order(2, 0), 2);
        due("order", x.order(2, 1), 3);
        x.keeper(3, SUMS);
        x.add(3, 0, 0, 1);
        due("order", x.order(3, 0), 2);
        due("order", x.order(0, 3), 3);
        x.add(3, 0, 1, 1);
        due("order", x.order(3, 0), 1);
        x.mark(0, 0, ENDLESS_BELOW);
        x.add(3, 0, 0, 1);
        due("order by the sums alone", x.order(3, 0), 1);
        x.keeper(4, PAIRS);
        x.pair(4, 0, 0, 1, 1);
        due("order of nought and the least", x.order(2, 4), 2);
        x.merge(2, 4);
        due("order", x.order(2, 4), 1);
        due("order", x.order(-1, 0), OUTSIDE);
        due("order", x.order(5, 6), OUTSIDE);
        due("order", x.order(5, 0), NOTHING);
        due("order", x.order(0, 5), NOTHING);
    }

    private static void promise26Undo() {
        LongSums x = withRow(0, DOUBLES, 1, 0);
        x.mark(0, 1, NO_NUMBER);
        due("undo", x.undo(), NONE);
        x.keeper(3, SUMS);
        due("undo", x.undo(), 3);
        due("sort", x.sort(3), NOTHING);
        due("undo", x.undo(), NONE);
        x.keeper(0, SUMS);
        x.keeper(0, SQUARES);
        x.add(0, 0, 0, 2);
        x.clear(0);
        x.merge(0, 0);
        x.keeper(0, SUMS);
        x.error(0, 0, 0, 1);
        x.add(0, 0, 0, 3);
        due("undo of error", x.undo(), 0);
        due("undo of keeper", x.undo(), 0);
        due("undo of merge", x.undo(), 0);
        due("sort", x.sort(0), 0);
        due("undo of clear", x.undo(), 0);
        due("sort", x.sort(0), 3);
        due("sign", x.sign(0), 1);
        due("undo of add", x.undo(), 0);
        due("sign", x.sign(0), 0);
        due("of squares", x.pair(0, 0, 0, 0, 1), 1);
        due("undo of pair", x.undo(), 0);
        due("undo of keeper", x.undo(), 0);
        due("of sums", x.pair(0, 0, 0, 0, 1), CAST);
        due("undo", x.undo(), 0);
        due("sort", x.sort(0), NOTHING);
        due("undo", x.undo(), NONE);
        due("count", x.count(4), 4);
    }

    private static void promise26UndoOfTwelve() {
        LongSums x = withRow(0, LONGS, 1);
        x.keeper(0, SUMS);
        x.keeper(1, SUMS);
        for (int i = 0; i < 20; i++) {
            x.add(i % 2, 0, 0, 1);
            due("count", x.count(2), Math.min(3 + i, 12));
        }
        for (int i = 19; i >= 8; i--) {
            due("undo", x.undo(), i % 2);
        }
        due("undo", x.undo(), NONE);
        dueDouble("tell", x.tell(0, 0, false), 4.0);
        dueDouble("tell", x.tell(1, 0, false), 4.0);
        x.add(0, 0, 0, 1);
        due("count", x.count(2), 1);
        due("undo", x.undo(), 0);
        due("undo", x.undo(), NONE);
    }

    private static void promise27Count() {
        LongSums x = withRow(0, DOUBLES, 1, 2, 3);
        x.mark(0, 2, NO_NUMBER);
        x.row(5, BYTES, 7);
        x.keeper(0, SUMS);
        x.keeper(4, SQUARES);
        all(x, "2 2 2 10 0 0");
        x.add(0, 0, 0, 3);
        x.add(4, 0, 0, -2);
        x.pair(4, 0, 0, 1, 2);
        all(x, "2 2 5 10 7 2");
        x.error(0, 0, 1, 2);
        x.merge(4, 4);
        x.undo();
        x.undo();
        x.undo();
        all(x, "2 2 4 10 9 1");
        x.lose(5);
        x.undo();
        x.undo();
        x.undo();
        all(x, "1 1 1 3 9 0");
        due("count", x.count(-1), OUTSIDE);
        due("count", x.count(6), OUTSIDE);
        due("count", x.count(LOW), OUTSIDE);
        due("count", x.count(HIGH), OUTSIDE);
    }

    private static void rows() {
        promise = "promise 1";
        promise01NewObject();
        promise = "promise 2";
        promise02Row();
        promise = "promise 3";
        promise03Lose();
        promise = "promise 4";
        promise04PutWholes();
        promise04PutFloating();
        promise04PutRefused();
        promise = "promise 5";
        promise05Mark();
        promise = "promise 6";
        promise06Copy();
        promise = "promise 7";
        promise07Look();
        promise = "promise 8";
        promise08See();
        promise = "promise 9";
        promise09Compare();
    }

    private static void keepers() {
        promise = "promise 10";
        promise10Keeper();
        promise = "promise 11";
        promise11Add();
        promise11AddEndless();
        promise = "promise 12";
        promise12Pair();
        promise12PairEndless();
        promise = "promise 13";
        promise13Merge();
        promise13MergeMostSeen();
        promise = "promise 14";
        promise14Clear();
        promise = "promise 15";
        promise15Error();
        promise15ErrorEndless();
        promise = "promises 11 to 16";
        promises11to16WholeRow();
        promise = "promise 16";
        promise16Plain();
    }

    private static void whatIsTold() {
        promise = "promises 17, 18";
        promise17and18SortAndSeen();
        promise = "promise 19";
        promise19Tell();
        promise19TellEdges();
        promise19TellOfPairs();
        promise19TellElse();
        promise = "promise 20";
        promise20Mean();
        promise20MeanEdges();
        promise = "promise 21";
        promise21Length();
        promise21LengthElse();
        promise = "promises 22, 23";
        promise22and23SignAndHigh();
        promise23HighFarUp();
        promise = "promise 24";
        promise24Bit();
        promise = "promise 25";
        promise25Order();
        promise = "promise 26";
        promise26Undo();
        promise26UndoOfTwelve();
        promise = "promise 27";
        promise27Count();
    }

    public static void main(String[] args) {
        promise = "constants";
        constants();
        rows();
        keepers();
        whatIsTold();
        System.out.println(wrong == 0 ? "all " + asked + " answers are as due" : wrong + " answers are not as due");
        if (wrong != 0) {
            System.exit(1);
        }
    }
}
