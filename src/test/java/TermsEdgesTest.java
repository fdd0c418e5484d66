import java.lang.annotation.Retention;
import java.lang.annotation.RetentionPolicy;
import java.lang.reflect.InvocationTargetException;
import java.lang.reflect.Method;

// The document's section "Terms": each sentence that names a boundary case has a test of its own, told by @Says.
public final class TermsEdgesTest {
    @Retention(RetentionPolicy.RUNTIME)
    private @interface Says {
        String value();
    }

    private static final int NONE = -1, OUTSIDE = -3, NOTHING = -11, CAST = -12, INDEX = -13, SIZE = -14;
    private static final int BYTES = 0, SHORTS = 1, INTS = 2, LONGS = 3, FLOATS = 4, DOUBLES = 5;
    private static final int SUMS = 0, PAIRS = 1, SQUARES = 2;
    private static final double ENDLESS = Double.POSITIVE_INFINITY, MOST = Double.MAX_VALUE, LEAST = Double.MIN_VALUE;
    private static final double MOST_FLOAT = Float.MAX_VALUE, LEAST_FLOAT = Float.MIN_VALUE;
    private static final double NO_NUMBER = Double.NaN;
    private static final long FULL = (1L << 53) - 1;
    private static final int LOW = Integer.MIN_VALUE, HIGH = Integer.MAX_VALUE;

    private static int wrong = 0;
    private static int tests = 0;
    private static String sentence = "";

    private static void due(String call, long got, long want) {
        if (got != want) {
            wrong++;
            System.out.println(sentence + "\n    " + call + " answered " + got + ", due is " + want);
        }
    }

    // To the last bit, so that 0.0 and -0.0 are told apart.
    private static void dueDouble(String call, double got, double want) {
        if (Double.doubleToLongBits(got) != Double.doubleToLongBits(want)) {
            wrong++;
            System.out.println(sentence + "\n    " + call + " answered " + got + ", due is " + want);
        }
    }

    // ---- what the tests share

    private static double power(int e) {
        return Math.scalb(1.0, e);
    }

    // Any double is put or marked in a place.
    private static void set(LongSums x, int row, int place, double number) {
        long bits = Double.doubleToRawLongBits(number);
        if (number != number || Math.abs(number) == ENDLESS || bits == Long.MIN_VALUE) {
            int what = number != number ? 2 : number == 0.0 ? 3 : number > 0 ? 0 : 1;
            due("mark(" + row + ", " + place + ", " + what + ")", x.mark(row, place, what), 0);
            return;
        }
        if (number == (long) number && Math.abs(number) < 0x1p53) {
            due("put of " + number, x.put(row, place, (long) number, 0), 0);
            return;
        }
        int high = (int) (bits >>> 52) & 2047;
        long whole = bits & (FULL >>> 1) | (high == 0 ? 0L : 1L << 52);
        long m = number < 0 ? -whole : whole;
        due("put(" + row + ", " + place + ", " + m + ", ..)", x.put(row, place, m, Math.max(high, 1) - 1075), 0);
    }

    private static void fill(LongSums x, int row, int kind, double... numbers) {
        due("row", x.row(row, kind, numbers.length), numbers.length);
        for (int i = 0; i < numbers.length; i++) {
            set(x, row, i, numbers[i]);
        }
    }

    // Row 0 has the numbers; keeper 0 has them ADDED, keeper 1 TAKEN.
    private static LongSums sums(double... numbers) {
        LongSums x = new LongSums();
        fill(x, 0, DOUBLES, numbers);
        x.keeper(0, SUMS);
        x.keeper(1, SUMS);
        due("add", x.add(0, 0, 0, numbers.length), numbers.length);
        due("add", x.add(1, 0, 0, -numbers.length), numbers.length);
        return x;
    }

    // Rows 0 and 1 have factors, two by two; keeper 0 has their products ADDED, keeper 1 TAKEN.
    private static LongSums pairs(double... factors) {
        LongSums x = new LongSums();
        int many = factors.length / 2;
        x.row(0, DOUBLES, many);
        x.row(1, DOUBLES, many);
        for (int i = 0; i < many; i++) {
            set(x, 0, i, factors[2 * i]);
            set(x, 1, i, factors[2 * i + 1]);
        }
        x.keeper(0, PAIRS);
        x.keeper(1, PAIRS);
        due("pair", x.pair(0, 0, 1, 0, many), many);
        due("pair", x.pair(1, 0, 1, 0, -many), many);
        return x;
    }

    private static void seenIs(LongSums x, int keeper, int noNumber, int above, int below) {
        due("seen(" + keeper + ", 0)", x.seen(keeper, 0), noNumber);
        due("seen(" + keeper + ", 1)", x.seen(keeper, 1), above);
        due("seen(" + keeper + ", 2)", x.seen(keeper, 2), below);
    }

    private static void tells(LongSums x, int keeper, boolean isFloat, double... wants) {
        for (int way = 0; way <= 3; way++) {
            dueDouble("tell(" + keeper + ", " + way + ", " + isFloat + ")", x.tell(keeper, way, isFloat), wants[way]);
        }
    }

    // ---- 1 ROWS

    @Says("ROWS 0 .. 11")
    private static void rowsFirstAndLast() {
        LongSums x = new LongSums();
        for (int row = 0; row <= 11; row++) {
            due("row(" + row + ", 3, 1)", x.row(row, LONGS, 1), 1);
            due("put", x.put(row, 0, 100 + row, 0), 0);
        }
        for (int row = 0; row <= 11; row++) {
            due("look(" + row + ", 3, 0)", x.look(row, LONGS, 0), 100 + row);
        }
        due("row(-1, 3, 1)", x.row(-1, LONGS, 1), OUTSIDE);
        due("row(12, 3, 1)", x.row(12, LONGS, 1), OUTSIDE);
        due("count(0)", x.count(0), 12);
        due("count(3)", x.count(3), 12);
    }

    @Says("are of a KIND, 0 bytes, 1 shorts, 2 ints, 3 longs, 4 floats, 5 doubles")
    private static void kindsFirstAndLast() {
        LongSums x = new LongSums();
        long[] looked = {(byte) FULL, (short) FULL, (int) FULL, FULL};
        double[] seen = {0x1p53, (double) FULL};
        for (int kind = BYTES; kind <= DOUBLES; kind++) {
            due("row(" + kind + ", " + kind + ", 1)", x.row(kind, kind, 1), 1);
            due("put", x.put(kind, 0, FULL, 0), 0);
            if (kind <= LONGS) {
                due("look", x.look(kind, kind, 0), looked[kind]);
                dueDouble("see", x.see(kind, 0), 0.0);
            } else {
                dueDouble("see", x.see(kind, 0), seen[kind - FLOATS]);
            }
        }
        due("row(6, -1, 1)", x.row(6, -1, 1), OUTSIDE);
        due("row(6, 6, 1)", x.row(6, 6, 1), OUTSIDE);
    }

    @Says("each with 0 to 40 places")
    private static void fewestAndMostPlaces() {
        for (int kind = BYTES; kind <= DOUBLES; kind++) {
            LongSums x = new LongSums();
            due("row(0, .., 0)", x.row(0, kind, 0), 0);
            due("put(0, 0, ..)", x.put(0, 0, 1, 0), INDEX);
            due("row(1, .., 40)", x.row(1, kind, 40), 40);
            due("put(1, 39, ..)", x.put(1, 39, 77, 0), 0);
            due("compare(1, 39, 77.0)", x.compare(1, 39, 77.0), 2);
            due("put(1, 40, ..)", x.put(1, 40, 1, 0), INDEX);
            due("row(2, .., 41)", x.row(2, kind, 41), OUTSIDE);
            due("row(2, .., -1)", x.row(2, kind, -1), SIZE);
            due("count(3)", x.count(3), 40);
        }
    }

    @Says("all 0 at first")
    private static void allNoughtAtFirst() {
        for (int kind = BYTES; kind <= DOUBLES; kind++) {
            LongSums x = new LongSums();
            x.row(0, kind, 40);
            x.keeper(0, SUMS);
            for (int place = 0; place < 40; place++) {
                due("compare(0, " + place + ", 0.0)", x.compare(0, place, 0.0), 2);
                dueDouble("see(0, " + place + ")", x.see(0, place), 0.0);
                if (kind <= LONGS) {
                    due("look(0, .., " + place + ")", x.look(0, kind, place), 0);
                }
            }
            x.add(0, 0, 0, 40);
            due("sign(0)", x.sign(0), 0);
            seenIs(x, 0, 0, 0, 0);
        }
    }

    @Says("all 0 at first (where another row stood before, be it of the same KIND, or shorter in between)")
    private static void allNoughtAgain() {
        for (int kind = BYTES; kind <= DOUBLES; kind++) {
            for (int then = BYTES; then <= DOUBLES; then++) {
                LongSums x = new LongSums();
                x.row(0, kind, 40);
                for (int place = 0; place < 40; place++) {
                    x.put(0, place, FULL, 900);
                    x.mark(0, place, place % 4);
                }
                x.row(0, then, 1);
                x.row(0, then, 40);
                for (int place = 0; place < 40; place++) {
                    due("compare(0, " + place + ", 0.0)", x.compare(0, place, 0.0), 2);
                    dueDouble("see(0, " + place + ")", x.see(0, place), 0.0);
                }
                dueDouble("plain(0, 0, 40)", x.plain(0, 0, 40), 0.0);
            }
        }
    }

    @Says("or MISSING (all at first)")
    private static void rowsMissingAtFirst() {
        LongSums x = new LongSums();
        x.keeper(0, SUMS);
        for (int row = 0; row <= 11; row++) {
            due("put(" + row + ", 0, 1, 0)", x.put(row, 0, 1, 0), NOTHING);
            due("mark(" + row + ", 0, 0)", x.mark(row, 0, 0), NOTHING);
            due("look(" + row + ", 0, 0)", x.look(row, 0, 0), NOTHING);
            due("compare(" + row + ", 0, 0.0)", x.compare(row, 0, 0.0), NOTHING);
            due("add(0, " + row + ", 0, 0)", x.add(0, row, 0, 0), NOTHING);
            due("lose(" + row + ")", x.lose(row), NOTHING);
        }
        due("count(0)", x.count(0), 0);
    }

    @Says("A NUMBER m, e is m times 2 to the power e, with m above -2^53 and below 2^53")
    private static void wholesLeastAndLargest() {
        for (int kind = BYTES; kind <= DOUBLES; kind++) {
            LongSums x = new LongSums();
            x.row(0, kind, 2);
            due("put of 2^53 - 1", x.put(0, 0, FULL, 0), 0);
            due("put of 1 - 2^53", x.put(0, 1, -FULL, 0), 0);
            due("put of 2^53", x.put(0, 0, FULL + 1, 0), OUTSIDE);
            due("put of -2^53", x.put(0, 1, -FULL - 1, 0), OUTSIDE);
            due("put of 2^53 + 1", x.put(0, 0, FULL + 2, 0), OUTSIDE);
            due("put of -2^53 - 1", x.put(0, 1, -FULL - 2, 0), OUTSIDE);
            due("put of the greatest long", x.put(0, 0, Long.MAX_VALUE, 0), OUTSIDE);
            due("put of the least long", x.put(0, 1, Long.MIN_VALUE, 0), OUTSIDE);
            double[] left = {-1.0, -1.0, -1.0, (double) FULL, 0x1p53, (double) FULL};
            due("compare(0, 0, ..)", x.compare(0, 0, left[kind]), 2);
            due("compare(0, 1, ..)", x.compare(0, 1, -left[kind]), 2);
        }
    }

    @Says("e of -1074 .. 971")
    private static void powersLeastAndLargest() {
        for (int kind = BYTES; kind <= DOUBLES; kind++) {
            LongSums x = new LongSums();
            x.row(0, kind, 3);
            due("put(0, 0, 3, -1074)", x.put(0, 0, 3, -1074), 0);
            due("put(0, 1, 3, 971)", x.put(0, 1, 3, 971), 0);
            due("put(0, 2, 3, 0)", x.put(0, 2, 3, 0), 0);
            due("put(0, 2, 1, -1075)", x.put(0, 2, 1, -1075), OUTSIDE);
            due("put(0, 2, 1, 972)", x.put(0, 2, 1, 972), OUTSIDE);
            due("put(0, 2, 0, -1075)", x.put(0, 2, 0, -1075), OUTSIDE);
            due("put(0, 2, 0, 972)", x.put(0, 2, 0, 972), OUTSIDE);
            due("put(0, 2, 1, the least int)", x.put(0, 2, 1, LOW), OUTSIDE);
            due("put(0, 2, 1, the greatest int)", x.put(0, 2, 1, HIGH), OUTSIDE);
            due("compare(0, 2, 3.0)", x.compare(0, 2, 3.0), 2);
        }
    }

    @Says("put to doubles just so")
    private static void doublesJustSo() {
        LongSums x = new LongSums();
        x.row(0, DOUBLES, 1);
        long[] wholes = {1, -1, 3, FULL, -FULL, FULL - 1, 1L << 52, (1L << 52) + 1, 1L << 40, 0};
        int[] powers = {-1074, -1073, -1023, -1022, -53, -1, 0, 1, 52, 53, 918, 970, 971};
        for (long m : wholes) {
            for (int e : powers) {
                due("put(0, 0, " + m + ", " + e + ")", x.put(0, 0, m, e), 0);
                dueDouble("see after put of " + m + ", " + e, x.see(0, 0), m == 0 ? 0.0 : m * power(e));
                due("compare", x.compare(0, 0, m * power(e)), 2);
            }
        }
    }

    @Says("put to doubles just so (the greatest and the least go to a keeper with each of their bits)")
    private static void doublesJustSoInKeepers() {
        LongSums x = new LongSums();
        x.row(0, DOUBLES, 3);
        x.put(0, 0, FULL, 971);
        x.put(0, 1, FULL, -1074);
        x.put(0, 2, 1, -1074);
        x.keeper(0, SUMS);
        x.add(0, 0, 0, 2);
        due("bit(0, 1024)", x.bit(0, 1024), 0);
        for (int i = 0; i < 53; i++) {
            due("bit(0, " + (971 + i) + ")", x.bit(0, 971 + i), 1);
            due("bit(0, " + (i - 1074) + ")", x.bit(0, i - 1074), 1);
        }
        due("bit(0, 970)", x.bit(0, 970), 0);
        due("bit(0, -1021)", x.bit(0, -1021), 0);
        due("bit(0, -1075)", x.bit(0, -1075), 0);
        x.clear(0);
        x.add(0, 0, 2, 1);
        due("high(0)", x.high(0), -1074);
    }

    private static void floatOf(long m, int e, double want) {
        LongSums x = new LongSums();
        x.row(0, FLOATS, 2);
        due("put(0, 0, " + m + ", " + e + ")", x.put(0, 0, m, e), 0);
        due("put(0, 1, " + -m + ", " + e + ")", x.put(0, 1, -m, e), 0);
        // Whether a nought is -0.0 there is not told.
        dueDouble("see the float of " + m + ", " + e, x.see(0, 0) + 0.0, want);
        dueDouble("see the float of " + -m + ", " + e, x.see(0, 1) + 0.0, 0.0 - want);
        due("compare", x.compare(0, 0, want), 2);
        due("compare", x.compare(0, 1, -want), 2);
    }

    @Says("to floats rounded to the nearest one")
    private static void floatsNearest() {
        floatOf((1L << 24) - 1, 0, 0x1p24 - 1);
        floatOf((1L << 25) - 1, 0, 0x1p25);
        floatOf((1L << 26) + 1, 0, 0x1p26);
        floatOf((1L << 26) + 3, 0, 0x1p26);
        floatOf((1L << 26) + 5, 0, 0x1p26 + 8);
        floatOf((1L << 26) + 11, 0, 0x1p26 + 8);
        floatOf((1L << 26) + 13, 0, 0x1p26 + 16);
        floatOf((1L << 52) + (1L << 28) + 1, -20, 0x1p32 + 0x1p9);
        floatOf((1L << 52) + (1L << 28) - 1, -20, 0x1p32);
        floatOf(FULL, 0, 0x1p53);
        floatOf(FULL, -53, 1.0);
        floatOf(FULL - (1L << 29), 0, 0x1p53 - 0x1p29);
        floatOf((1L << 53) - (1L << 28) - 1, 0, 0x1p53 - 0x1p29);
    }

    @Says("(of two the even one")
    private static void floatsEven() {
        floatOf((1L << 24) + 1, 0, 0x1p24);
        floatOf((1L << 24) + 3, 0, 0x1p24 + 4);
        floatOf((1L << 24) + 5, 0, 0x1p24 + 4);
        floatOf((1L << 24) + 1, 50, 0x1p74);
        floatOf((1L << 24) + 3, -60, (0x1p24 + 4) * 0x1p-60);
        floatOf((1L << 25) - 1, -1, 0x1p24);
        floatOf((1L << 25) - 3, 0, 0x1p25 - 4);
        floatOf((1L << 52) + (1L << 28), 0, 0x1p52);
        floatOf((1L << 52) + 3 * (1L << 28), 0, 0x1p52 + 0x1p30);
        floatOf((1L << 53) - (1L << 28), 0, 0x1p53);
    }

    @Says("endless where it is beyond)")
    private static void floatsBeyond() {
        floatOf((1L << 24) - 1, 104, MOST_FLOAT);
        floatOf((1L << 25) - 1, 103, ENDLESS);
        floatOf((1L << 26) - 3, 102, MOST_FLOAT);
        floatOf((1L << 53) - (1L << 28) - 1, 75, MOST_FLOAT);
        floatOf((1L << 53) - (1L << 28), 75, ENDLESS);
        floatOf((1L << 53) - (1L << 28) + 1, 75, ENDLESS);
        floatOf(1, 127, 0x1p127);
        floatOf(1, 128, ENDLESS);
        floatOf(1, 971, ENDLESS);
        floatOf(FULL, 971, ENDLESS);
        floatOf(0, 971, 0.0);
        LongSums x = new LongSums();
        x.row(0, FLOATS, 2);
        x.put(0, 0, 1, 128);
        x.put(0, 1, -1, 128);
        x.keeper(0, SUMS);
        x.add(0, 0, 0, 1);
        seenIs(x, 0, 0, 1, 0);
        x.add(0, 0, 1, 1);
        seenIs(x, 0, 0, 1, 1);
        due("sign(0)", x.sign(0), 0);
    }

    @Says("to floats rounded to the nearest one (what rounds to nothing, or to the least)")
    private static void floatsRoundedToNothing() {
        floatOf(1, -149, LEAST_FLOAT);
        floatOf(1, -150, 0.0);
        floatOf((1L << 52) + 1, -202, LEAST_FLOAT);
        floatOf(1L << 52, -202, 0.0);
        floatOf((1L << 52) - 1, -202, 0.0);
        floatOf(FULL, -203, 0.0);
        floatOf(FULL, -202, LEAST_FLOAT);
        floatOf(FULL, -201, 2 * LEAST_FLOAT);
        floatOf(3, -150, 2 * LEAST_FLOAT);
        floatOf(5, -150, 2 * LEAST_FLOAT);
        floatOf(5, -151, LEAST_FLOAT);
        floatOf(1, -1074, 0.0);
        floatOf(FULL, -1074, 0.0);
        floatOf(0, -1074, 0.0);
    }

    @Says("to floats rounded to the nearest one (where the last bit is 2^-149, however small)")
    private static void floatsSmall() {
        floatOf((1L << 23) - 1, -149, 0x1p-126 - LEAST_FLOAT);
        floatOf(1L << 23, -149, 0x1p-126);
        floatOf((1L << 24) - 1, -150, 0x1p-126);
        floatOf((1L << 24) - 3, -150, 0x1p-126 - 2 * LEAST_FLOAT);
        floatOf((1L << 24) + 1, -150, 0x1p-126);
        floatOf((1L << 24) + 3, -150, 0x1p-126 + 2 * LEAST_FLOAT);
        floatOf((1L << 25) + 1, -150, 0x1p-125);
        floatOf((1L << 25) + 2, -150, 0x1p-125);
        floatOf((1L << 25) + 3, -150, 0x1p-125 + 2 * LEAST_FLOAT);
        floatOf(FULL, -190, 0x1p-137);
    }

    @Says("to floats rounded to the nearest one (so that a keeper gets what stands in the row)")
    private static void floatsInKeepers() {
        LongSums x = new LongSums();
        x.row(0, FLOATS, 3);
        x.put(0, 0, (1L << 24) + 1, 0);
        x.put(0, 1, -1, -150);
        x.put(0, 2, 3, -150);
        x.keeper(0, SUMS);
        x.keeper(1, SQUARES);
        x.add(0, 0, 0, 1);
        dueDouble("tell", x.tell(0, 0, false), 0x1p24);
        x.clear(0);
        x.add(0, 0, 1, 1);
        due("sign", x.sign(0), 0);
        due("high", x.high(0), -10000);
        x.add(0, 0, 2, 1);
        due("high", x.high(0), -148);
        x.add(1, 0, 0, 1);
        dueDouble("tell", x.tell(1, 0, false), 0x1p48);
        dueDouble("plain", x.plain(0, 0, 1), 0x1p24);
    }

    private static void wholeOf(int kind, long m, long want) {
        LongSums x = new LongSums();
        x.row(0, kind, 1);
        for (int e : new int[] {-1074, -1, 0, 1, 971}) {
            x.put(0, 0, 5, 0);
            due("put(0, 0, " + m + ", " + e + ")", x.put(0, 0, m, e), 0);
            due("look(0, " + kind + ", 0) of " + m, x.look(0, kind, 0), want);
            due("compare(0, 0, " + want + ")", x.compare(0, 0, (double) want), 2);
        }
        x.keeper(0, SUMS);
        x.add(0, 0, 0, 1);
        dueDouble("tell of " + want, x.tell(0, 0, false), (double) want);
        dueDouble("plain of " + want, x.plain(0, 0, 1), (double) want);
    }

    @Says("to others m, the lowest bits as they are: bytes")
    private static void bytesCut() {
        wholeOf(BYTES, 127, 127);
        wholeOf(BYTES, 128, -128);
        wholeOf(BYTES, -128, -128);
        wholeOf(BYTES, -129, 127);
        wholeOf(BYTES, 255, -1);
        wholeOf(BYTES, 256, 0);
        wholeOf(BYTES, 257, 1);
        wholeOf(BYTES, FULL, -1);
        wholeOf(BYTES, -FULL, 1);
    }

    @Says("to others m, the lowest bits as they are: shorts")
    private static void shortsCut() {
        wholeOf(SHORTS, 32767, 32767);
        wholeOf(SHORTS, 32768, -32768);
        wholeOf(SHORTS, -32768, -32768);
        wholeOf(SHORTS, -32769, 32767);
        wholeOf(SHORTS, 65535, -1);
        wholeOf(SHORTS, 65536, 0);
        wholeOf(SHORTS, FULL, -1);
        wholeOf(SHORTS, -FULL, 1);
    }

    @Says("to others m, the lowest bits as they are: ints")
    private static void intsCut() {
        wholeOf(INTS, HIGH, HIGH);
        wholeOf(INTS, HIGH + 1L, LOW);
        wholeOf(INTS, LOW, LOW);
        wholeOf(INTS, LOW - 1L, HIGH);
        wholeOf(INTS, (1L << 32) - 1, -1);
        wholeOf(INTS, 1L << 32, 0);
        wholeOf(INTS, FULL, -1);
        wholeOf(INTS, -FULL, 1);
    }

    @Says("to others m, the lowest bits as they are: longs")
    private static void longsWhole() {
        wholeOf(LONGS, FULL, FULL);
        wholeOf(LONGS, -FULL, -FULL);
        wholeOf(LONGS, 1L << 32, 1L << 32);
        wholeOf(LONGS, -(1L << 31) - 1, -(1L << 31) - 1);
        wholeOf(LONGS, 0, 0);
    }

    @Says("Floats and doubles may be ENDLESS, above or below, or NO NUMBER, or -0.0")
    private static void marksInBothKinds() {
        for (int kind = FLOATS; kind <= DOUBLES; kind++) {
            LongSums x = new LongSums();
            fill(x, 0, kind, ENDLESS, -ENDLESS, NO_NUMBER, -0.0);
            due("compare with the greatest", x.compare(0, 0, MOST), 3);
            due("compare with the greatest below 0", x.compare(0, 1, -MOST), 1);
            due("compare of NO NUMBER", x.compare(0, 2, 0.0), 0);
            due("compare of -0.0", x.compare(0, 3, 0.0), 2);
            x.keeper(0, SUMS);
            x.add(0, 0, 0, 4);
            seenIs(x, 0, 1, 1, 1);
            due("sign", x.sign(0), 0);
        }
    }

    // ---- 2 KEEPERS

    @Says("KEEPERS 0 .. 5")
    private static void keepersFirstAndLast() {
        LongSums x = new LongSums();
        x.row(0, LONGS, 1);
        for (int keeper = 0; keeper <= 5; keeper++) {
            due("keeper(" + keeper + ", 0)", x.keeper(keeper, SUMS), 0);
            x.put(0, 0, 10 + keeper, 0);
            due("add", x.add(keeper, 0, 0, 1), 1);
        }
        for (int keeper = 0; keeper <= 5; keeper++) {
            dueDouble("tell(" + keeper + ", 0, false)", x.tell(keeper, 0, false), 10.0 + keeper);
        }
        due("keeper(-1, 0)", x.keeper(-1, SUMS), OUTSIDE);
        due("keeper(6, 0)", x.keeper(6, SUMS), OUTSIDE);
        due("count(1)", x.count(1), 6);
    }

    @Says("are of a KIND: 0 SUMS, 1 PAIRS, 2 SQUARES (which are PAIRS, too)")
    private static void keeperKinds() {
        LongSums x = new LongSums();
        fill(x, 0, DOUBLES, 3.0);
        fill(x, 1, DOUBLES, 5.0);
        for (int kind = SUMS; kind <= SQUARES; kind++) {
            due("keeper", x.keeper(kind, kind), 0);
            due("add to KIND " + kind, x.add(kind, 0, 0, 1), kind == PAIRS ? CAST : 1);
            due("pair to KIND " + kind, x.pair(kind, 0, 1, 0, 1), kind == SUMS ? CAST : 1);
            due("error to KIND " + kind, x.error(kind, 0, 0, 0), kind == SUMS ? 0 : CAST);
        }
        dueDouble("tell", x.tell(1, 0, false), 15.0);
        dueDouble("tell", x.tell(2, 0, false), 24.0);
        due("keeper of KIND -1", x.keeper(3, -1), OUTSIDE);
        due("keeper of KIND 3", x.keeper(3, 3), OUTSIDE);
    }

    @Says("Each has an EXACT SUM (0 at first) .. has SEEN (0, 0, 0 at first)")
    private static void keeperAtFirst() {
        LongSums x = new LongSums();
        for (int kind = SUMS; kind <= SQUARES; kind++) {
            x.keeper(kind, kind);
            seenIs(x, kind, 0, 0, 0);
            due("sort", x.sort(kind), 0);
            due("sign", x.sign(kind), 0);
            due("high", x.high(kind), -10000);
            due("bit", x.bit(kind, -2148), 0);
            due("bit", x.bit(kind, 2200), 0);
            tells(x, kind, false, 0.0, 0.0, 0.0, 0.0);
            tells(x, kind, true, 0.0, 0.0, 0.0, 0.0);
        }
        due("order", x.order(0, 2), 1);
    }

    @Says("which is a whole number times 2^-2148")
    private static void leastOfAllSums() {
        LongSums x = pairs(LEAST, LEAST);
        due("high(0)", x.high(0), -2148);
        due("bit(0, -2148)", x.bit(0, -2148), 1);
        due("bit(0, -2147)", x.bit(0, -2147), 0);
        due("sign(0)", x.sign(0), 1);
        due("sign(1)", x.sign(1), 2);
        due("high(1)", x.high(1), -2148);
        due("merge", x.merge(0, 1), 0);
        due("sign(0)", x.sign(0), 0);
    }

    // The greatest product of all, 40 times ADDED (or TAKEN), then doubled as often as an object's calls allow.
    private static LongSums grown(int many) {
        LongSums x = new LongSums();
        x.row(0, DOUBLES, 40);
        x.mark(0, 0, 4);
        for (int had = 1; had < 40; had += Math.min(had, 40 - had)) {
            x.copy(0, 0, 0, had, Math.min(had, 40 - had));
        }
        x.keeper(0, SQUARES);
        due("add", x.add(0, 0, 0, many), 40);
        due("high(0)", x.high(0), 2053);
        for (int i = 0; i < 488; i++) {
            x.merge(0, 0);
        }
        return x;
    }

    @Says("of any size that can come (above 0)")
    private static void greatestOfAllSums() {
        LongSums x = grown(40);
        due("high(0)", x.high(0), 2541);
        due("sign(0)", x.sign(0), 1);
        due("bit(0, 2200)", x.bit(0, 2200), 0);
        dueDouble("mean(0, 1000000, 0)", x.mean(0, 1000000, 0), ENDLESS);
        dueDouble("length(0, false)", x.length(0, false), MOST);
        due("merge(0, 0)", x.merge(0, 0), 0);
        due("high(0)", x.high(0), 2542);
        due("undo", x.undo(), 0);
        due("add", x.add(0, 0, 0, 40), 40);
        due("bit(0, 2047)", x.bit(0, 2047), 1);
        due("high(0)", x.high(0), 2541);
    }

    @Says("of any size that can come (below 0)")
    private static void greatestOfAllSumsBelowNought() {
        LongSums x = grown(-40);
        due("high(0)", x.high(0), 2541);
        due("sign(0)", x.sign(0), 2);
        tells(x, 0, true, -ENDLESS, -MOST_FLOAT, -MOST_FLOAT, -ENDLESS);
        due("merge(0, 0)", x.merge(0, 0), 0);
        due("sign(0)", x.sign(0), 2);
        due("high(0)", x.high(0), 2542);
    }

    // Keeper 0 has SEEN so many of one (what: of 0 NO NUMBER, 1 ENDLESS above, 2 below), row 0 has one of it.
    private static LongSums withSeen(int what, int many) {
        LongSums x = new LongSums();
        fill(x, 0, DOUBLES, what == 0 ? NO_NUMBER : what == 1 ? ENDLESS : -ENDLESS);
        x.keeper(0, SUMS);
        for (int bit = 30; bit >= 0; bit--) {
            x.merge(0, 0);
            if ((many >> bit & 1) == 1) {
                x.add(0, 0, 0, 1);
            }
        }
        due("seen at last", x.seen(0, what), many);
        return x;
    }

    @Says("none is ever more than 1000000000: it stays that then: by add")
    private static void mostSeenByAdd() {
        for (int what = 0; what <= 2; what++) {
            LongSums x = withSeen(what, 999999999);
            x.add(0, 0, 0, 1);
            due("seen", x.seen(0, what), 1000000000);
            x.add(0, 0, 0, 1);
            due("seen", x.seen(0, what), 1000000000);
            due("others seen", x.seen(0, (what + 1) % 3) + x.seen(0, (what + 2) % 3), 0);
        }
    }

    @Says("none is ever more than 1000000000: it stays that then: by add of many below 0")
    private static void mostSeenByTaking() {
        for (int what = 0; what <= 2; what++) {
            LongSums x = withSeen(what, 999999999);
            set(x, 0, 0, what == 0 ? NO_NUMBER : what == 1 ? -ENDLESS : ENDLESS);
            x.add(0, 0, 0, -1);
            due("seen", x.seen(0, what), 1000000000);
            x.add(0, 0, 0, -1);
            due("seen", x.seen(0, what), 1000000000);
        }
    }

    @Says("none is ever more than 1000000000: it stays that then: by merge")
    private static void mostSeenByMerge() {
        for (int what = 0; what <= 2; what++) {
            LongSums x = withSeen(what, 999999998);
            x.keeper(1, SUMS);
            x.add(1, 0, 0, 1);
            x.merge(0, 1);
            due("seen", x.seen(0, what), 999999999);
            x.merge(0, 1);
            due("seen", x.seen(0, what), 1000000000);
            x.merge(0, 1);
            due("seen", x.seen(0, what), 1000000000);
            x.merge(1, 0);
            due("seen", x.seen(1, what), 1000000000);
            x.merge(0, 0);
            x.merge(0, 1);
            due("seen", x.seen(0, what), 1000000000);
        }
    }

    @Says("none is ever more than 1000000000: from half of that on, twice as much")
    private static void mostSeenByDoubling() {
        for (int what = 0; what <= 2; what++) {
            LongSums x = withSeen(what, 500000000);
            x.merge(0, 0);
            due("seen", x.seen(0, what), 1000000000);
            x = withSeen(what, 500000001);
            x.merge(0, 0);
            due("seen", x.seen(0, what), 1000000000);
            x = withSeen(what, 499999999);
            x.merge(0, 0);
            due("seen", x.seen(0, what), 999999998);
        }
    }

    @Says("none is ever more than 1000000000: it stays that then: by pair")
    private static void mostSeenByPair() {
        LongSums x = new LongSums();
        fill(x, 0, DOUBLES, ENDLESS, -ENDLESS, NO_NUMBER);
        fill(x, 1, DOUBLES, 1.0, 1.0, 1.0);
        x.keeper(0, PAIRS);
        x.pair(0, 0, 1, 0, 3);
        for (int i = 0; i < 29; i++) {
            x.merge(0, 0);
        }
        seenIs(x, 0, 536870912, 536870912, 536870912);
        x.merge(0, 0);
        seenIs(x, 0, 1000000000, 1000000000, 1000000000);
        x.pair(0, 0, 1, 0, 3);
        x.pair(0, 0, 1, 0, -3);
        seenIs(x, 0, 1000000000, 1000000000, 1000000000);
        x.undo();
        x.undo();
        x.undo();
        seenIs(x, 0, 536870912, 536870912, 536870912);
    }

    @Says("it stays that then (until the keeper is as a new one)")
    private static void mostSeenThenNew() {
        LongSums x = withSeen(0, 1000000000);
        x.error(0, 0, 0, 0);
        seenIs(x, 0, 0, 0, 0);
        x.undo();
        due("seen", x.seen(0, 0), 1000000000);
        x.clear(0);
        seenIs(x, 0, 0, 0, 0);
        x.undo();
        due("seen", x.seen(0, 0), 1000000000);
        x.keeper(0, SUMS);
        seenIs(x, 0, 0, 0, 0);
        x.undo();
        due("seen", x.seen(0, 0), 1000000000);
    }

    @Says("What is ADDED to it: a number that is none of these to the sum")
    private static void numbersAreNotSeen() {
        LongSums x = sums(MOST, -MOST, LEAST, -LEAST, 0.0);
        seenIs(x, 0, 0, 0, 0);
        seenIs(x, 1, 0, 0, 0);
        x.add(0, 0, 0, 1);
        due("sign(0)", x.sign(0), 1);
        x.add(0, 0, 1, 1);
        due("sign(0)", x.sign(0), 0);
        x.add(0, 0, 3, 1);
        due("sign(0)", x.sign(0), 2);
        seenIs(x, 0, 0, 0, 0);
    }

    @Says("(-0.0 is 0)")
    private static void minusNoughtIsNought() {
        LongSums x = sums(-0.0, -0.0);
        seenIs(x, 0, 0, 0, 0);
        due("sign(0)", x.sign(0), 0);
        due("sign(1)", x.sign(1), 0);
        dueDouble("tell(0, 0, false)", x.tell(0, 0, false), 0.0);
        dueDouble("tell(1, 3, true)", x.tell(1, 3, true), 0.0);
        fill(x, 0, FLOATS, 5.0, -0.0);
        x.add(0, 0, 0, 2);
        dueDouble("tell(0, 0, false)", x.tell(0, 0, false), 5.0);
    }

    @Says("else one more is SEEN of it")
    private static void addedIsSeen() {
        LongSums x = sums(ENDLESS, ENDLESS, ENDLESS, -ENDLESS, -ENDLESS, NO_NUMBER, 9.0);
        seenIs(x, 0, 1, 3, 2);
        due("sign(0)", x.sign(0), 1);
        due("high(0)", x.high(0), 3);
    }

    @Says("What is TAKEN: likewise from the sum; of what is ENDLESS one more is SEEN on the other side")
    private static void takenIsSeenOnTheOtherSide() {
        LongSums x = sums(ENDLESS, ENDLESS, ENDLESS, -ENDLESS, -ENDLESS, NO_NUMBER, 9.0);
        seenIs(x, 1, 1, 2, 3);
        due("sign(1)", x.sign(1), 2);
        due("high(1)", x.high(1), 3);
        x.add(0, 0, 0, -7);
        seenIs(x, 0, 2, 5, 5);
        due("sign(0)", x.sign(0), 0);
    }

    // What a product of two is: 0 a number, 1, 2 ENDLESS above and below, 3 NO NUMBER.
    private static void productIs(double one, double other, int sort) {
        for (int swapped = 0; swapped <= 1; swapped++) {
            LongSums x = swapped == 0 ? pairs(one, other) : pairs(other, one);
            due("sort of " + one + " times " + other + " ADDED", x.sort(0), sort);
            due("sort of " + one + " times " + other + " TAKEN", x.sort(1), sort == 1 ? 2 : sort == 2 ? 1 : sort);
            seenIs(x, 0, sort == 3 ? 1 : 0, sort == 1 ? 1 : 0, sort == 2 ? 1 : 0);
            if (sort != 0) {
                due("sign of the sum", x.sign(0), 0);
            }
        }
    }

    @Says("A PRODUCT is NO NUMBER, if one of both is")
    private static void productOfNoNumber() {
        for (double other : new double[] {NO_NUMBER, ENDLESS, -ENDLESS, 0.0, -0.0, 1.0, -1.0, MOST, LEAST}) {
            productIs(NO_NUMBER, other, 3);
        }
    }

    @Says("or one is 0 and the other one ENDLESS")
    private static void productOfNoughtAndEndless() {
        productIs(0.0, ENDLESS, 3);
        productIs(0.0, -ENDLESS, 3);
        productIs(-0.0, ENDLESS, 3);
        productIs(-0.0, -ENDLESS, 3);
    }

    @Says("or one is 0 and the other one ENDLESS (the 0 of a byte, of a number cut or rounded to nothing)")
    private static void productOfOtherNoughts() {
        LongSums x = new LongSums();
        fill(x, 0, FLOATS, ENDLESS);
        x.keeper(0, PAIRS);
        for (int kind = BYTES; kind <= LONGS; kind++) {
            x.row(1, kind, 1);
            x.put(1, 0, kind == LONGS ? 0 : 1L << 40, 5);
            x.pair(0, 0, 1, 0, 1);
            due("seen(0, 0) with KIND " + kind, x.seen(0, 0), kind + 1);
        }
        x.row(1, FLOATS, 1);
        x.put(1, 0, 1, -150);
        x.pair(0, 1, 0, 0, 1);
        x.put(1, 0, -1, -150);
        x.pair(0, 1, 0, 0, 1);
        seenIs(x, 0, 6, 0, 0);
        x.put(1, 0, -1, -149);
        x.pair(0, 1, 0, 0, 1);
        seenIs(x, 0, 6, 0, 1);
    }

    @Says("ENDLESS with the sign of both, if one is")
    private static void productOfEndless() {
        productIs(ENDLESS, ENDLESS, 1);
        productIs(ENDLESS, -ENDLESS, 2);
        productIs(-ENDLESS, -ENDLESS, 1);
        for (double size : new double[] {LEAST, 1.0, MOST}) {
            productIs(ENDLESS, size, 1);
            productIs(ENDLESS, -size, 2);
            productIs(-ENDLESS, size, 2);
            productIs(-ENDLESS, -size, 1);
        }
    }

    @Says("else exact")
    private static void productExact() {
        LongSums x = pairs((double) FULL, (double) FULL);
        for (int p = 0; p <= 106; p++) {
            due("bit(0, " + p + ")", x.bit(0, p), p == 0 || p >= 54 && p <= 105 ? 1 : 0);
            due("bit(1, " + p + ")", x.bit(1, p), p == 0 || p >= 54 && p <= 105 ? 1 : 0);
        }
        productIs(MOST, MOST, 0);
        productIs(MOST, -MOST, 0);
        productIs(LEAST, LEAST, 0);
        productIs(LEAST, -MOST, 0);
        x = pairs(MOST, MOST);
        due("high(0)", x.high(0), 2047);
        x = pairs(LEAST, -MOST);
        due("high(0)", x.high(0), -51);
        due("sign(0)", x.sign(0), 2);
        due("sign(1)", x.sign(1), 1);
        x = pairs(0.0, -MOST);
        due("sign(0)", x.sign(0), 0);
    }

    // All that can have been SEEN of the three.
    private static void sortIs(boolean noNumber, boolean above, boolean below, int sort, double told) {
        LongSums x = new LongSums();
        fill(x, 0, DOUBLES, NO_NUMBER, ENDLESS, -ENDLESS, 7.0);
        x.keeper(0, SUMS);
        x.add(0, 0, 0, noNumber ? 1 : 0);
        x.add(0, 0, 1, above ? 1 : 0);
        x.add(0, 0, 2, below ? 1 : 0);
        x.add(0, 0, 3, 1);
        due("sort(0)", x.sort(0), sort);
        tells(x, 0, false, told, told, told, told);
        tells(x, 0, true, told, told, told, told);
        due("sign(0)", x.sign(0), 1);
        due("high(0)", x.high(0), 2);
    }

    @Says("A KEEPER is NO NUMBER, if it has SEEN that")
    private static void noNumberIfSeen() {
        sortIs(true, false, false, 3, 0.0);
        sortIs(true, true, false, 3, 0.0);
        sortIs(true, false, true, 3, 0.0);
        sortIs(true, true, true, 3, 0.0);
    }

    @Says("or both that are ENDLESS")
    private static void noNumberIfBothSeen() {
        sortIs(false, true, true, 3, 0.0);
    }

    @Says("else ENDLESS, if it has SEEN one")
    private static void endlessIfSeen() {
        sortIs(false, true, false, 1, ENDLESS);
        sortIs(false, false, true, 2, -ENDLESS);
    }

    @Says("else its EXACT SUM")
    private static void elseTheSum() {
        sortIs(false, false, false, 0, 7.0);
    }

    // ---- 3 ROUNDED

    @Says("0 to the nearest")
    private static void nearest() {
        double next = Math.nextUp(1.0);
        LongSums x = sums(1.0, 0x1p-53, LEAST);
        dueDouble("tell above half", x.tell(0, 0, false), next);
        dueDouble("tell below 0, above half", x.tell(1, 0, false), -next);
        x = sums(1.0, 0x1p-53, -LEAST);
        dueDouble("tell below half", x.tell(0, 0, false), 1.0);
        dueDouble("tell below 0, below half", x.tell(1, 0, false), -1.0);
        x = sums(1.0, 0x1p-53, 0x1p-54);
        tells(x, 0, false, next, 1.0, next, 1.0);
        x = sums(1.0, 0x1p-54);
        tells(x, 0, false, 1.0, 1.0, next, 1.0);
        x = sums(1.0, 0x1p-24, 0x1p-25);
        tells(x, 0, true, 1.0 + 0x1p-23, 1.0, 1.0 + 0x1p-23, 1.0);
        x = sums(1.0, 0x1p-25);
        tells(x, 0, true, 1.0, 1.0, 1.0 + 0x1p-23, 1.0);
        x = sums(1.0, 0x1p-24, LEAST);
        dueDouble("tell to a float above half", x.tell(0, 0, true), 1.0 + 0x1p-23);
        dueDouble("tell to a float below 0, above half", x.tell(1, 0, true), -1.0 - 0x1p-23);
        x = sums(1.0, 0x1p-24, -LEAST);
        dueDouble("tell to a float below half", x.tell(0, 0, true), 1.0);
        dueDouble("tell to a float below 0, below half", x.tell(1, 0, true), -1.0);
    }

    @Says("of two the one whose last bit is 0")
    private static void nearestOfTwo() {
        LongSums x = sums(1.0, 0x1p-53);
        dueDouble("tell of a tie", x.tell(0, 0, false), 1.0);
        dueDouble("tell of a tie below 0", x.tell(1, 0, false), -1.0);
        x = sums(1.0, 0x1p-52, 0x1p-53);
        dueDouble("tell of a tie", x.tell(0, 0, false), 1.0 + 0x1p-51);
        dueDouble("tell of a tie below 0", x.tell(1, 0, false), -1.0 - 0x1p-51);
        x = sums(2.0, -0x1p-53);
        dueDouble("tell of a tie below a power of two", x.tell(0, 0, false), 2.0);
        x = sums(1.0, 0x1p-24);
        dueDouble("tell of a tie to a float", x.tell(0, 0, true), 1.0);
        dueDouble("tell of a tie to a float below 0", x.tell(1, 0, true), -1.0);
        x = sums(1.0, 0x1p-23, 0x1p-24);
        dueDouble("tell of a tie to a float", x.tell(0, 0, true), 1.0 + 0x1p-22);
        dueDouble("tell of a tie to a float below 0", x.tell(1, 0, true), -1.0 - 0x1p-22);
        x = sums(2.0, -0x1p-24);
        dueDouble("tell of a tie to a float below a power of two", x.tell(0, 0, true), 2.0);
    }

    @Says("to a double, or a float (once: not to a double first)")
    private static void roundedOnce() {
        LongSums x = sums(1.0, 0x1p-24, 0x1p-60);
        tells(x, 0, true, 1.0 + 0x1p-23, 1.0, 1.0 + 0x1p-23, 1.0);
        x = sums(1.0, 0x1p-23, 0x1p-24, -0x1p-60);
        tells(x, 0, true, 1.0 + 0x1p-23, 1.0 + 0x1p-23, 1.0 + 0x1p-22, 1.0 + 0x1p-23);
        tells(x, 1, true, -1.0 - 0x1p-23, -1.0 - 0x1p-23, -1.0 - 0x1p-23, -1.0 - 0x1p-22);
        x = sums(1.0, LEAST);
        tells(x, 0, true, 1.0, 1.0, 1.0 + 0x1p-23, 1.0);
        x = sums(1.0, -LEAST);
        tells(x, 0, true, 1.0, 1.0 - 0x1p-24, 1.0, 1.0 - 0x1p-24);
    }

    @Says("1 towards 0; 2 up; 3 down (what is exact already stays by every way)")
    private static void exactStays() {
        for (double number : new double[] {1.0, MOST, LEAST, 0x1p-1022, 0x1p-1022 - LEAST, 1.0 + 0x1p-52, 0x1p53}) {
            LongSums x = sums(number);
            tells(x, 0, false, number, number, number, number);
            tells(x, 1, false, -number, -number, -number, -number);
        }
        for (double number : new double[] {1.0, MOST_FLOAT, LEAST_FLOAT, 0x1p-126, 0x1p-126 - LEAST_FLOAT, 0x1p24}) {
            LongSums x = sums(number);
            tells(x, 0, true, number, number, number, number);
            tells(x, 1, true, -number, -number, -number, -number);
        }
    }

    @Says("1 towards 0")
    private static void towardsNought() {
        LongSums x = sums(2.0, -LEAST);
        dueDouble("tell(0, 1, false)", x.tell(0, 1, false), Math.nextDown(2.0));
        dueDouble("tell(1, 1, false)", x.tell(1, 1, false), -Math.nextDown(2.0));
        dueDouble("tell(0, 1, true)", x.tell(0, 1, true), 2.0 - 0x1p-23);
        dueDouble("tell(1, 1, true)", x.tell(1, 1, true), -2.0 + 0x1p-23);
    }

    @Says("2 up")
    private static void up() {
        LongSums x = sums(2.0, LEAST);
        dueDouble("tell(0, 2, false)", x.tell(0, 2, false), Math.nextUp(2.0));
        dueDouble("tell(1, 2, false)", x.tell(1, 2, false), -2.0);
        dueDouble("tell(0, 2, true)", x.tell(0, 2, true), 2.0 + 0x1p-22);
        dueDouble("tell(1, 2, true)", x.tell(1, 2, true), -2.0);
        x = sums(2.0, -LEAST);
        dueDouble("tell of just less than 2.0 up", x.tell(0, 2, false), 2.0);
        dueDouble("tell of just less than 2.0 up to a float", x.tell(0, 2, true), 2.0);
    }

    @Says("3 down")
    private static void down() {
        LongSums x = sums(2.0, LEAST);
        dueDouble("tell(0, 3, false)", x.tell(0, 3, false), 2.0);
        dueDouble("tell(1, 3, false)", x.tell(1, 3, false), -Math.nextUp(2.0));
        dueDouble("tell(0, 3, true)", x.tell(0, 3, true), 2.0);
        dueDouble("tell(1, 3, true)", x.tell(1, 3, true), -2.0 - 0x1p-22);
        x = sums(2.0, -LEAST);
        dueDouble("tell of just more than -2.0 down", x.tell(1, 3, false), -2.0);
        dueDouble("tell of just more than -2.0 down to a float", x.tell(1, 3, true), -2.0);
    }

    @Says("(from half a step beyond the greatest on: ENDLESS)")
    private static void halfAStepBeyond() {
        LongSums x = sums(MOST, 0x1p970);
        dueDouble("tell at half a step", x.tell(0, 0, false), ENDLESS);
        dueDouble("tell at half a step below 0", x.tell(1, 0, false), -ENDLESS);
        x = sums(MOST, 0x1p970, -LEAST);
        dueDouble("tell below half a step", x.tell(0, 0, false), MOST);
        dueDouble("tell below half a step below 0", x.tell(1, 0, false), -MOST);
        x = sums(MOST, 0x1p970, LEAST);
        dueDouble("tell above half a step", x.tell(0, 0, false), ENDLESS);
        x = sums(MOST, LEAST);
        dueDouble("tell just beyond", x.tell(0, 0, false), MOST);
        x = sums(MOST, 0x1p971);
        dueDouble("tell at a whole step", x.tell(0, 0, false), ENDLESS);
    }

    @Says("(from half a step beyond the greatest on: ENDLESS) to a float")
    private static void halfAStepBeyondFloats() {
        LongSums x = sums(MOST_FLOAT, 0x1p103);
        dueDouble("tell at half a step", x.tell(0, 0, true), ENDLESS);
        dueDouble("tell at half a step below 0", x.tell(1, 0, true), -ENDLESS);
        x = sums(MOST_FLOAT, 0x1p103, -LEAST);
        dueDouble("tell below half a step", x.tell(0, 0, true), MOST_FLOAT);
        dueDouble("tell below half a step below 0", x.tell(1, 0, true), -MOST_FLOAT);
        x = sums(MOST_FLOAT, 0x1p103, LEAST);
        dueDouble("tell above half a step", x.tell(0, 0, true), ENDLESS);
        x = sums(MOST_FLOAT, LEAST);
        dueDouble("tell just beyond", x.tell(0, 0, true), MOST_FLOAT);
        x = sums(0x1p128);
        dueDouble("tell at a whole step", x.tell(0, 0, true), ENDLESS);
        dueDouble("tell to a double", x.tell(0, 0, false), 0x1p128);
    }

    @Says("Beyond the greatest: by 1 that, by 2 ENDLESS above, or the least (the greatest below 0), by 3 likewise")
    private static void beyondByTheOtherWays() {
        for (double more : new double[] {LEAST, 0x1p970, 0x1p971, MOST}) {
            LongSums x = sums(MOST, more);
            for (int way = 1; way <= 3; way++) {
                dueDouble("tell(0, " + way + ", false)", x.tell(0, way, false), way == 2 ? ENDLESS : MOST);
                dueDouble("tell(1, " + way + ", false)", x.tell(1, way, false), way == 3 ? -ENDLESS : -MOST);
            }
        }
    }

    @Says("Beyond the greatest: by 1 that, by 2 ENDLESS above, or the least, by 3 likewise: to a float")
    private static void beyondFloatsByTheOtherWays() {
        for (double more : new double[] {LEAST, 0x1p103, 0x1p104, MOST}) {
            LongSums x = sums(MOST_FLOAT, more);
            for (int way = 1; way <= 3; way++) {
                dueDouble("tell(0, " + way + ", true)", x.tell(0, way, true), way == 2 ? ENDLESS : MOST_FLOAT);
                dueDouble("tell(1, " + way + ", true)", x.tell(1, way, true), way == 3 ? -ENDLESS : -MOST_FLOAT);
            }
        }
    }

    @Says("Beyond the greatest (far beyond)")
    private static void farBeyond() {
        LongSums x = pairs(MOST, MOST);
        tells(x, 0, false, ENDLESS, MOST, ENDLESS, MOST);
        tells(x, 1, false, -ENDLESS, -MOST, -MOST, -ENDLESS);
        tells(x, 0, true, ENDLESS, MOST_FLOAT, ENDLESS, MOST_FLOAT);
        tells(x, 1, true, -ENDLESS, -MOST_FLOAT, -MOST_FLOAT, -ENDLESS);
    }

    @Says("Nothing is told as 0.0")
    private static void nothing() {
        LongSums x = sums(MOST, 1.0, -LEAST, -MOST, -1.0, LEAST);
        for (int keeper = 0; keeper <= 1; keeper++) {
            tells(x, keeper, false, 0.0, 0.0, 0.0, 0.0);
            tells(x, keeper, true, 0.0, 0.0, 0.0, 0.0);
        }
    }

    @Says("Between 0 and the least: by 1 0.0, by 0, 2, 3 as that says: half of it, more, less")
    private static void betweenNoughtAndTheLeast() {
        LongSums x = pairs(LEAST, 0.5);
        tells(x, 0, false, 0.0, 0.0, LEAST, 0.0);
        tells(x, 1, false, 0.0, 0.0, 0.0, -LEAST);
        x = pairs(LEAST, 0.5, LEAST, LEAST);
        tells(x, 0, false, LEAST, 0.0, LEAST, 0.0);
        tells(x, 1, false, -LEAST, 0.0, 0.0, -LEAST);
        x = pairs(LEAST, 0.5, LEAST, -LEAST);
        tells(x, 0, false, 0.0, 0.0, LEAST, 0.0);
        tells(x, 1, false, 0.0, 0.0, 0.0, -LEAST);
        x = pairs(LEAST, LEAST);
        tells(x, 0, false, 0.0, 0.0, LEAST, 0.0);
        tells(x, 1, false, 0.0, 0.0, 0.0, -LEAST);
        x = pairs(LEAST, 1.0, LEAST, -LEAST);
        tells(x, 0, false, LEAST, 0.0, LEAST, 0.0);
        tells(x, 1, false, -LEAST, 0.0, 0.0, -LEAST);
    }

    @Says("Between 0 and the least: the same of floats")
    private static void betweenNoughtAndTheLeastFloat() {
        LongSums x = sums(0x1p-150);
        tells(x, 0, true, 0.0, 0.0, LEAST_FLOAT, 0.0);
        tells(x, 1, true, 0.0, 0.0, 0.0, -LEAST_FLOAT);
        x = sums(0x1p-150, LEAST);
        tells(x, 0, true, LEAST_FLOAT, 0.0, LEAST_FLOAT, 0.0);
        tells(x, 1, true, -LEAST_FLOAT, 0.0, 0.0, -LEAST_FLOAT);
        x = sums(0x1p-150, -LEAST);
        tells(x, 0, true, 0.0, 0.0, LEAST_FLOAT, 0.0);
        tells(x, 1, true, 0.0, 0.0, 0.0, -LEAST_FLOAT);
        x = sums(LEAST);
        tells(x, 0, true, 0.0, 0.0, LEAST_FLOAT, 0.0);
        tells(x, 1, true, 0.0, 0.0, 0.0, -LEAST_FLOAT);
        x = sums(0x1p-149, -LEAST);
        tells(x, 0, true, LEAST_FLOAT, 0.0, LEAST_FLOAT, 0.0);
        tells(x, 1, true, -LEAST_FLOAT, 0.0, 0.0, -LEAST_FLOAT);
        x = pairs(LEAST, LEAST);
        tells(x, 0, true, 0.0, 0.0, LEAST_FLOAT, 0.0);
    }

    @Says("Between 0 and the least (just above the least, of two the even one)")
    private static void aboveTheLeast() {
        LongSums x = pairs(LEAST, 1.0, LEAST, 0.5);
        tells(x, 0, false, 2 * LEAST, LEAST, 2 * LEAST, LEAST);
        tells(x, 1, false, -2 * LEAST, -LEAST, -LEAST, -2 * LEAST);
        x = pairs(LEAST, 2.0, LEAST, 0.5);
        tells(x, 0, false, 2 * LEAST, 2 * LEAST, 3 * LEAST, 2 * LEAST);
        x = sums(0x1p-149, 0x1p-150);
        tells(x, 0, true, 2 * LEAST_FLOAT, LEAST_FLOAT, 2 * LEAST_FLOAT, LEAST_FLOAT);
        x = sums(0x1p-148, 0x1p-150);
        tells(x, 0, true, 2 * LEAST_FLOAT, 2 * LEAST_FLOAT, 3 * LEAST_FLOAT, 2 * LEAST_FLOAT);
    }

    @Says("ROUNDED .. to a double, or a float (where the last bit is the least one)")
    private static void smallNumbersRounded() {
        double small = 0x1p-1022 - LEAST;
        LongSums x = pairs(small, 1.0, LEAST, 0.5);
        tells(x, 0, false, 0x1p-1022, small, 0x1p-1022, small);
        x = pairs(0x1p-1022, 1.0, LEAST, 0.5);
        tells(x, 0, false, 0x1p-1022, 0x1p-1022, 0x1p-1022 + LEAST, 0x1p-1022);
        x = pairs(0x1p-1021, 1.0, LEAST, 1.0);
        tells(x, 0, false, 0x1p-1021, 0x1p-1021, 0x1p-1021 + 2 * LEAST, 0x1p-1021);
        double smallFloat = 0x1p-126 - 0x1p-149;
        x = sums(smallFloat, 0x1p-150);
        tells(x, 0, true, 0x1p-126, smallFloat, 0x1p-126, smallFloat);
        x = sums(0x1p-126, 0x1p-150);
        tells(x, 0, true, 0x1p-126, 0x1p-126, 0x1p-126 + 0x1p-149, 0x1p-126);
        x = sums(0x1p-125, 0x1p-149);
        tells(x, 0, true, 0x1p-125, 0x1p-125, 0x1p-125 + 0x1p-148, 0x1p-125);
    }

    // ---- 4 CHANGES

    private static LongSums forChanges() {
        LongSums x = new LongSums();
        fill(x, 0, DOUBLES, 1.0, 2.0, NO_NUMBER);
        x.keeper(0, SUMS);
        x.keeper(1, PAIRS);
        return x;
    }

    @Says("CHANGES are the calls of keeper, add, pair, merge, clear, error that are not refused")
    private static void sixCallsAreChanges() {
        LongSums x = forChanges();
        due("count(2)", x.count(2), 2);
        x.add(0, 0, 0, 3);
        due("count(2) after add", x.count(2), 3);
        x.pair(1, 0, 0, 0, 3);
        due("count(2) after pair", x.count(2), 4);
        x.merge(1, 1);
        due("count(2) after merge", x.count(2), 5);
        x.clear(1);
        due("count(2) after clear", x.count(2), 6);
        x.error(0, 0, 0, 2);
        due("count(2) after error", x.count(2), 7);
        x.keeper(2, SQUARES);
        due("count(2) after keeper", x.count(2), 8);
        for (int keeper : new int[] {2, 0, 1, 1, 1, 0, 1, 0}) {
            due("undo", x.undo(), keeper);
        }
        due("undo", x.undo(), NONE);
    }

    @Says("CHANGES are the calls (also those over no place, and those that leave all as it was)")
    private static void emptyCallsAreChanges() {
        LongSums x = forChanges();
        due("add of none", x.add(0, 0, 3, 0), 0);
        due("count(2)", x.count(2), 3);
        due("pair of none", x.pair(1, 0, 0, 3, 0), 0);
        due("count(2)", x.count(2), 4);
        due("error of none", x.error(0, 0, 3, 0), 0);
        due("count(2)", x.count(2), 5);
        due("clear of a new one", x.clear(1), 0);
        due("count(2)", x.count(2), 6);
        due("merge of nought", x.merge(1, 1), 0);
        due("count(2)", x.count(2), 7);
        due("keeper of the same KIND", x.keeper(0, SUMS), 0);
        due("count(2)", x.count(2), 8);
        for (int keeper : new int[] {0, 1, 1, 0, 1, 0, 1, 0}) {
            due("undo", x.undo(), keeper);
        }
    }

    @Says("that are not refused")
    private static void refusedCallsAreNoChanges() {
        LongSums x = forChanges();
        due("keeper", x.keeper(0, 3), OUTSIDE);
        due("add", x.add(1, 0, 0, 1), CAST);
        due("add", x.add(0, 0, 0, 4), INDEX);
        due("pair", x.pair(0, 0, 0, 0, 1), CAST);
        due("pair", x.pair(1, 0, 1, 0, 1), NOTHING);
        due("merge", x.merge(0, 1), CAST);
        due("merge", x.merge(0, 2), NOTHING);
        due("clear", x.clear(2), NOTHING);
        due("error", x.error(1, 0, 0, 1), CAST);
        due("error", x.error(0, 0, 3, 1), INDEX);
        due("count(2)", x.count(2), 2);
        due("undo", x.undo(), 1);
        due("undo", x.undo(), 0);
        due("undo", x.undo(), NONE);
    }

    @Says("CHANGES are the calls of keeper, add, pair, merge, clear, error (and no others)")
    private static void otherCallsAreNoChanges() {
        LongSums x = forChanges();
        x.row(1, DOUBLES, 2);
        x.put(1, 0, 5, 0);
        x.mark(1, 1, 0);
        x.copy(1, 0, 0, 0, 2);
        x.look(1, LONGS, 0);
        x.see(1, 0);
        x.compare(1, 0, 1.0);
        x.lose(1);
        x.plain(0, 0, 3);
        x.sort(0);
        x.seen(0, 1);
        x.tell(0, 0, true);
        x.mean(0, 3, 1);
        x.length(1, true);
        x.sign(0);
        x.high(0);
        x.bit(0, 0);
        x.order(0, 1);
        x.count(2);
        due("count(2)", x.count(2), 2);
        due("undo", x.undo(), 1);
        dueDouble("see: undo leaves the rows", x.see(0, 0), 5.0);
    }

    // Keeper 0 has 1.0 ADDED so many times.
    private static LongSums added(int many) {
        LongSums x = new LongSums();
        fill(x, 0, DOUBLES, 1.0);
        x.keeper(0, SUMS);
        for (int i = 0; i < many; i++) {
            x.add(0, 0, 0, 1);
        }
        return x;
    }

    @Says("The latest 12 are kept: twelve")
    private static void twelveAreKept() {
        LongSums x = added(11);
        due("count(2)", x.count(2), 12);
        for (int i = 10; i >= 0; i--) {
            due("undo", x.undo(), 0);
            dueDouble("tell", x.tell(0, 0, false), i);
        }
        due("undo of keeper", x.undo(), 0);
        due("sort", x.sort(0), NOTHING);
        due("undo", x.undo(), NONE);
        due("count(2)", x.count(2), 0);
    }

    @Says("The latest 12 are kept: one more, and the first is no longer kept")
    private static void thirteenAreTooMany() {
        LongSums x = added(12);
        due("count(2)", x.count(2), 12);
        for (int i = 11; i >= 0; i--) {
            due("undo", x.undo(), 0);
            dueDouble("tell", x.tell(0, 0, false), i);
        }
        due("undo", x.undo(), NONE);
        due("sort: the keeper stays", x.sort(0), 0);
        due("count(2)", x.count(2), 0);
    }

    @Says("The latest 12 are kept: of many the latest")
    private static void ofManyTheLatest() {
        for (int many = 13; many <= 40; many++) {
            LongSums x = added(many);
            due("count(2)", x.count(2), 12);
            for (int i = many - 1; i >= many - 12; i--) {
                due("undo", x.undo(), 0);
                dueDouble("tell", x.tell(0, 0, false), i);
            }
            due("undo", x.undo(), NONE);
            dueDouble("tell", x.tell(0, 0, false), many - 12);
        }
    }

    @Says("The latest 12 are kept: what undo() took back makes room")
    private static void roomAfterUndo() {
        LongSums x = added(20);
        for (int i = 0; i < 5; i++) {
            x.undo();
        }
        due("count(2)", x.count(2), 7);
        for (int i = 0; i < 5; i++) {
            x.add(0, 0, 0, -1);
        }
        due("count(2)", x.count(2), 12);
        dueDouble("tell", x.tell(0, 0, false), 10.0);
        for (int i = 0; i < 5; i++) {
            due("undo", x.undo(), 0);
        }
        dueDouble("tell", x.tell(0, 0, false), 15.0);
        for (int i = 0; i < 7; i++) {
            due("undo", x.undo(), 0);
        }
        dueDouble("tell", x.tell(0, 0, false), 8.0);
        due("undo", x.undo(), NONE);
    }

    @Says("undo() takes back the latest that is kept: that KEEPER is as it was: its KIND, its sum, what it has SEEN")
    private static void undoOfAllThatItHas() {
        LongSums x = new LongSums();
        fill(x, 0, DOUBLES, -3.0, ENDLESS, ENDLESS, -ENDLESS, NO_NUMBER, NO_NUMBER, NO_NUMBER);
        x.keeper(0, SUMS);
        x.add(0, 0, 0, 7);
        x.keeper(0, PAIRS);
        x.undo();
        seenIs(x, 0, 3, 2, 1);
        due("sign", x.sign(0), 2);
        due("high", x.high(0), 1);
        due("add", x.add(0, 0, 0, 1), 1);
        due("pair", x.pair(0, 0, 0, 0, 1), CAST);
        x.undo();
        due("bit", x.bit(0, 1), 1);
        due("bit", x.bit(0, 0), 1);
        x.undo();
        seenIs(x, 0, 0, 0, 0);
        due("sign", x.sign(0), 0);
        x.undo();
        due("sign of a MISSING one", x.sign(0), NOTHING);
    }

    @Says("that KEEPER is as it was (the others stay as they are)")
    private static void undoOfOneAlone() {
        LongSums x = new LongSums();
        fill(x, 0, DOUBLES, 1.0);
        x.keeper(0, SUMS);
        x.keeper(5, SQUARES);
        x.add(0, 0, 0, 1);
        x.add(5, 0, 0, 1);
        x.add(0, 0, 0, 1);
        x.merge(5, 5);
        x.add(0, 0, 0, 1);
        due("undo", x.undo(), 0);
        dueDouble("tell(0)", x.tell(0, 0, false), 2.0);
        dueDouble("tell(5)", x.tell(5, 0, false), 2.0);
        due("undo", x.undo(), 5);
        dueDouble("tell(0)", x.tell(0, 0, false), 2.0);
        dueDouble("tell(5)", x.tell(5, 0, false), 1.0);
    }

    @Says("REFUSED calls change nothing")
    private static void refusedRowsStay() {
        LongSums x = new LongSums();
        fill(x, 0, DOUBLES, 1.0, 2.0);
        fill(x, 1, LONGS, 3.0, 4.0);
        due("row", x.row(0, DOUBLES, 41), OUTSIDE);
        due("row", x.row(0, DOUBLES, -1), SIZE);
        due("row", x.row(0, 6, 2), OUTSIDE);
        due("put", x.put(0, 2, 9, 0), INDEX);
        due("put", x.put(0, 0, FULL + 1, 0), OUTSIDE);
        due("mark", x.mark(0, 0, 6), OUTSIDE);
        due("mark", x.mark(1, 0, 0), CAST);
        due("copy", x.copy(0, 0, 0, 1, 2), INDEX);
        due("copy", x.copy(0, 0, 1, 0, 1), CAST);
        dueDouble("see(0, 0)", x.see(0, 0), 1.0);
        dueDouble("see(0, 1)", x.see(0, 1), 2.0);
        due("look(1, 3, 0)", x.look(1, LONGS, 0), 3);
        due("look(1, 3, 1)", x.look(1, LONGS, 1), 4);
        due("count(0)", x.count(0), 2);
        due("count(3)", x.count(3), 4);
    }

    @Says("FINDINGS: NOTHING, CAST, INDEX, SIZE, NONE, and OUTSIDE")
    private static void findings() {
        due("NONE", LongSums.NONE, -1);
        due("OUTSIDE", LongSums.OUTSIDE, -3);
        due("NOTHING", LongSums.NOTHING, -11);
        due("CAST", LongSums.CAST, -12);
        due("INDEX", LongSums.INDEX, -13);
        due("SIZE", LongSums.SIZE, -14);
    }

    public static void main(String[] args) throws IllegalAccessException {
        for (Method method : TermsEdgesTest.class.getDeclaredMethods()) {
            Says says = method.getAnnotation(Says.class);
            if (says == null) {
                continue;
            }
            tests++;
            sentence = method.getName() + ": \"" + says.value() + "\"";
            try {
                method.invoke(null);
            } catch (InvocationTargetException thrown) {
                wrong++;
                System.out.println(sentence + "\n    threw " + thrown.getCause());
            }
        }
        System.out.println(wrong == 0 ? "all " + tests + " sentences hold" : wrong + " answers are not as due");
        if (wrong != 0 || tests == 0) {
            System.exit(1);
        }
    }
}
