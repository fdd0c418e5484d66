import java.lang.annotation.Retention;
import java.lang.annotation.RetentionPolicy;
import java.lang.reflect.InvocationTargetException;
import java.lang.reflect.Method;
import java.math.BigDecimal;
import java.math.BigInteger;
import java.math.MathContext;
import java.math.RoundingMode;

// The document's sections "What it is" and "The public face": a test for each of their sentences, told by @Says.
public final class WhatItIsTest {
    @Retention(RetentionPolicy.RUNTIME)
    private @interface Says {
        String value();
    }

    private static final int INTS = 2, LONGS = 3, FLOATS = 4, DOUBLES = 5;
    private static final int SUMS = 0, PAIRS = 1, SQUARES = 2;
    private static final int PLACES = 40, LAST_CALL = 512;
    private static final int LOWEST = -2148;
    private static final long FULL = (1L << 53) - 1;

    private static int wrong = 0;
    private static int tests = 0;
    private static String sentence = "";

    private static void due(String call, long got, long want) {
        if (got != want) {
            wrong++;
            System.out.println(sentence + "\n    " + call + " answered " + got + ", due is " + want);
        }
    }

    private static void dueDouble(String call, double got, double want) {
        if (Double.doubleToLongBits(got) != Double.doubleToLongBits(want)) {
            wrong++;
            System.out.println(sentence + "\n    " + call + " answered " + got + ", due is " + want);
        }
    }

    // ---- what the tests share

    // The same numbers in each run: any m and e, told by a place alone.
    private static long someWhole(int i) {
        long mixed = (i + 1) * 0x9E3779B97F4A7C15L;
        mixed ^= mixed >>> 29;
        mixed *= 0xBF58476D1CE4E5B9L;
        return (mixed ^ mixed >>> 32) >> 11 + i % 7;
    }

    private static int somePower(int i) {
        return -1074 + Math.floorMod(i * 617 + i / 13 * 211, 2046);
    }

    private static BigInteger units(long m, int e) {
        return BigInteger.valueOf(m).shiftLeft(e - LOWEST);
    }

    // All that is told of a keeper, against the sum that it should have, in units of 2^-2148.
    private static void holds(LongSums x, int keeper, BigInteger sum) {
        due("sign", x.sign(keeper), sum.signum() < 0 ? 2 : sum.signum());
        int top = sum.abs().bitLength() - 1;
        due("high", x.high(keeper), top < 0 ? -10000 : top + LOWEST);
        BigDecimal exact = new BigDecimal(sum).divide(new BigDecimal(BigInteger.ONE.shiftLeft(-LOWEST)));
        dueDouble("tell", x.tell(keeper, 0, false), exact.doubleValue() + 0.0);
    }

    // Its bits, too, as many as leave the object below its 512 calls.
    private static void holdsEachBit(LongSums x, int keeper, BigInteger sum) {
        holds(x, keeper, sum);
        BigInteger size = sum.abs();
        int from = Math.max(size.getLowestSetBit() - 3, 0);
        int calls = 0;
        for (int p = from; p <= size.bitLength() && p + LOWEST <= 2200 && calls < 300; p++, calls++) {
            due("bit(" + keeper + ", " + (p + LOWEST) + ")", x.bit(keeper, p + LOWEST), size.testBit(p) ? 1 : 0);
        }
    }

    private static void put(LongSums x, int row, int place, long m, int e) {
        due("put(" + row + ", " + place + ", " + m + ", " + e + ")", x.put(row, place, m, e), 0);
    }

    private static void fill(LongSums x, int row, int kind, int e, long... wholes) {
        due("row", x.row(row, kind, wholes.length), wholes.length);
        for (int i = 0; i < wholes.length; i++) {
            put(x, row, i, wholes[i], e);
        }
    }

    // ---- What it is

    @Says("rows of numbers are summed without any error")
    private static void withoutAnyError() {
        LongSums x = new LongSums();
        BigInteger sum = BigInteger.ZERO;
        x.keeper(0, SUMS);
        for (int row = 0; row < 6; row++) {
            x.row(row, DOUBLES, PLACES);
            for (int i = 0; i < PLACES; i++) {
                int number = row * PLACES + i;
                put(x, row, i, someWhole(number), somePower(number));
                sum = sum.add(units(someWhole(number), somePower(number)));
            }
            due("add", x.add(0, row, 0, PLACES), PLACES);
            holds(x, 0, sum);
        }
    }

    @Says("sums .. are kept exactly, however many")
    private static void howeverMany() {
        LongSums x = new LongSums();
        BigInteger round = BigInteger.ZERO;
        x.row(0, DOUBLES, PLACES);
        x.keeper(0, SUMS);
        for (int i = 0; i < PLACES; i++) {
            put(x, 0, i, i % 2 == 0 ? FULL - i : FULL - 7 * i, 918 + i);
            round = round.add(units(i % 2 == 0 ? FULL - i : FULL - 7 * i, 918 + i));
        }
        int rounds = LAST_CALL - 2 - PLACES - 5;
        for (int i = 0; i < rounds; i++) {
            x.add(0, 0, 0, PLACES);
        }
        holds(x, 0, round.multiply(BigInteger.valueOf(rounds)));
        due("count(4)", x.count(4), rounds * PLACES);
    }

    @Says("sums of products .. are kept exactly, however many")
    private static void howeverManyProducts() {
        LongSums x = new LongSums();
        BigInteger round = BigInteger.ZERO;
        x.row(0, DOUBLES, PLACES);
        x.row(1, DOUBLES, PLACES);
        x.keeper(0, PAIRS);
        for (int i = 0; i < PLACES; i++) {
            put(x, 0, i, FULL - i, 931 + i);
            put(x, 1, i, i % 3 == 0 ? i - FULL : FULL - 5 * i, 971 - i);
            BigInteger product = BigInteger.valueOf(FULL - i).multiply(BigInteger.valueOf(i % 3 == 0 ? i - FULL : FULL - 5 * i));
            round = round.add(product.shiftLeft(931 + 971 - LOWEST));
        }
        int rounds = LAST_CALL - 3 - 2 * PLACES - 5;
        for (int i = 0; i < rounds; i++) {
            x.pair(0, 0, 1, 0, -PLACES);
        }
        holds(x, 0, round.multiply(BigInteger.valueOf(-rounds)));
    }

    @Says("sums .. of squares are kept exactly, however many")
    private static void howeverManySquares() {
        LongSums x = new LongSums();
        BigInteger round = BigInteger.ZERO;
        x.row(0, DOUBLES, PLACES);
        x.keeper(0, SQUARES);
        for (int i = 0; i < PLACES; i++) {
            long m = i % 2 == 0 ? FULL - i : i - FULL;
            put(x, 0, i, m, 932 + i);
            round = round.add(BigInteger.valueOf(m).pow(2).shiftLeft(2 * (932 + i) - LOWEST));
        }
        int rounds = LAST_CALL - 2 - PLACES - 5;
        for (int i = 0; i < rounds; i++) {
            x.add(0, 0, 0, PLACES);
        }
        holds(x, 0, round.multiply(BigInteger.valueOf(rounds)));
    }

    @Says("and however far apart the numbers are")
    private static void howeverFarApart() {
        LongSums x = new LongSums();
        x.row(0, DOUBLES, 2);
        put(x, 0, 0, FULL, 971);
        put(x, 0, 1, -1, -1074);
        x.keeper(0, SUMS);
        x.add(0, 0, 0, 2);
        holdsEachBit(x, 0, units(FULL, 971).subtract(units(1, -1074)));
        due("bit(0, 971)", x.bit(0, 971), 0);
        due("bit(0, 970)", x.bit(0, 970), 1);
        dueDouble("tell(0, 3, false)", x.tell(0, 3, false), Math.nextDown(Double.MAX_VALUE));
        dueDouble("tell(0, 2, false)", x.tell(0, 2, false), Double.MAX_VALUE);
        x.add(0, 0, 0, -1);
        dueDouble("tell(0, 0, false)", x.tell(0, 0, false), -Double.MIN_VALUE);
    }

    @Says("and however far apart the numbers are: squares")
    private static void howeverFarApartSquares() {
        LongSums x = new LongSums();
        x.row(0, DOUBLES, 2);
        put(x, 0, 0, FULL, 971);
        put(x, 0, 1, 1, -1074);
        x.keeper(0, SQUARES);
        x.add(0, 0, 0, 2);
        BigInteger sum = BigInteger.valueOf(FULL).pow(2).shiftLeft(2 * 971 - LOWEST).add(BigInteger.ONE);
        holds(x, 0, sum);
        due("bit(0, -2148)", x.bit(0, -2148), 1);
        dueDouble("length up", x.length(0, true), Double.POSITIVE_INFINITY);
        dueDouble("length down", x.length(0, false), Double.MAX_VALUE);
        x.add(0, 0, 0, -1);
        due("high(0)", x.high(0), -2148);
        dueDouble("length up", x.length(0, true), Double.MIN_VALUE);
    }

    @Says("in any order")
    private static void inAnyOrder() {
        LongSums x = new LongSums();
        BigInteger sum = BigInteger.ZERO;
        for (int row = 0; row < 3; row++) {
            x.row(row, DOUBLES, PLACES);
        }
        for (int i = 0; i < PLACES; i++) {
            put(x, 0, i, someWhole(i), 3 * i - 90);
            put(x, 1, PLACES - 1 - i, someWhole(i), 3 * i - 90);
            put(x, 2, i * 17 % PLACES, someWhole(i), 3 * i - 90);
            sum = sum.add(units(someWhole(i), 3 * i - 90));
        }
        for (int keeper = 0; keeper < 3; keeper++) {
            x.keeper(keeper, SUMS);
            x.add(keeper, keeper, 0, PLACES);
            holds(x, keeper, sum);
        }
        due("order(0, 1)", x.order(0, 1), 1);
        due("order(0, 2)", x.order(0, 2), 1);
        boolean isPlainTheSame = x.plain(0, 0, PLACES) == x.plain(1, 0, PLACES) && x.plain(0, 0, PLACES) == x.plain(2, 0, PLACES);
        // As doubles are summed, the order does tell.
        due("the plain sums are all the same", isPlainTheSame ? 1 : 0, 0);
    }

    @Says("and any parts")
    private static void inAnyParts() {
        LongSums x = new LongSums();
        x.row(0, DOUBLES, PLACES);
        for (int i = 0; i < PLACES; i++) {
            put(x, 0, i, someWhole(i), somePower(i));
        }
        for (int keeper = 0; keeper < 5; keeper++) {
            x.keeper(keeper, SUMS);
        }
        x.add(0, 0, 0, PLACES);
        for (int i = PLACES - 1; i >= 0; i--) {
            x.add(1, 0, i, 1);
        }
        x.add(2, 0, 0, 13);
        x.add(3, 0, 13, 20);
        x.add(4, 0, 33, 7);
        x.merge(3, 4);
        x.merge(2, 3);
        due("order(0, 1)", x.order(0, 1), 1);
        due("order(0, 2)", x.order(0, 2), 1);
        x.add(4, 0, 0, PLACES);
        x.add(4, 0, 33, -7);
        due("order(0, 4)", x.order(0, 4), 1);
    }

    @Says("what is told is rounded once, to a double or a float")
    private static void roundedOnce() {
        LongSums x = new LongSums();
        // 1 + 2^-24 is halfway between two floats; 2^-80 more is lost where a double comes in between.
        x.row(0, DOUBLES, 3);
        put(x, 0, 0, 1, 0);
        put(x, 0, 1, 1, -24);
        put(x, 0, 2, 1, -80);
        x.keeper(0, SUMS);
        x.add(0, 0, 0, 3);
        dueDouble("tell(0, 0, true)", x.tell(0, 0, true), 1.0 + 0x1p-23);
        dueDouble("tell(0, 0, false)", x.tell(0, 0, false), 1.0 + 0x1p-24);
        x.add(0, 0, 2, -1);
        dueDouble("tell(0, 0, true)", x.tell(0, 0, true), 1.0);
        x.add(0, 0, 2, -1);
        dueDouble("tell(0, 0, true)", x.tell(0, 0, true), 1.0);
        dueDouble("tell(0, 0, false)", x.tell(0, 0, false), 1.0 + 0x1p-24);
    }

    @Says("in four ways")
    private static void inFourWays() {
        LongSums x = new LongSums();
        fill(x, 0, LONGS, 0, FULL, FULL, 1);
        x.keeper(0, SUMS);
        x.keeper(1, SUMS);
        x.add(0, 0, 0, 3);
        x.add(1, 0, 0, -3);
        // 2^54 - 1 stands between 2^54 - 2 and 2^54, halfway.
        double[] wants = {0x1p54, 0x1p54 - 2, 0x1p54, 0x1p54 - 2};
        double[] takenWants = {-0x1p54, 2 - 0x1p54, 2 - 0x1p54, -0x1p54};
        for (int way = 0; way < 4; way++) {
            dueDouble("tell(0, " + way + ", false)", x.tell(0, way, false), wants[way]);
            dueDouble("tell(1, " + way + ", false)", x.tell(1, way, false), takenWants[way]);
        }
    }

    @Says("means .. are found of the exact sums")
    private static void meansOfExactSums() {
        LongSums x = new LongSums();
        // 2^53 + 1 is no double; a third of it is one: 3002399751580331.
        fill(x, 0, LONGS, 0, FULL, 2);
        x.keeper(0, SUMS);
        x.add(0, 0, 0, 2);
        dueDouble("tell(0, 0, false)", x.tell(0, 0, false), 0x1p53);
        for (int way = 0; way < 4; way++) {
            dueDouble("mean(0, 3, " + way + ")", x.mean(0, 3, way), 3002399751580331.0);
        }
        x.row(1, DOUBLES, 2);
        put(x, 1, 0, FULL, 971);
        put(x, 1, 1, FULL, 971);
        x.keeper(1, SUMS);
        x.add(1, 1, 0, 2);
        dueDouble("tell(1, 0, false)", x.tell(1, 0, false), Double.POSITIVE_INFINITY);
        dueDouble("mean(1, 2, 0)", x.mean(1, 2, 0), Double.MAX_VALUE);
    }

    @Says("and lengths are found of the exact sums")
    private static void lengthsOfExactSums() {
        LongSums x = new LongSums();
        // The square of 2^53 - 1 is no double, and neither is one less; their lengths are different.
        fill(x, 0, LONGS, 0, FULL, 1);
        x.keeper(0, SQUARES);
        x.add(0, 0, 0, 1);
        dueDouble("length down", x.length(0, false), FULL);
        dueDouble("length up", x.length(0, true), FULL);
        double told = x.tell(0, 0, false);
        x.add(0, 0, 1, -1);
        dueDouble("tell (the same)", x.tell(0, 0, false), told);
        dueDouble("length down", x.length(0, false), FULL - 1);
        dueDouble("length up", x.length(0, true), FULL);
        x.row(1, INTS, PLACES);
        x.keeper(1, SQUARES);
        BigInteger sum = BigInteger.ZERO;
        for (int i = 0; i < PLACES; i++) {
            put(x, 1, i, (int) someWhole(i), 0);
            sum = sum.add(BigInteger.valueOf((int) someWhole(i)).pow(2));
        }
        x.add(1, 1, 0, PLACES);
        BigDecimal root = new BigDecimal(sum).sqrt(new MathContext(60, RoundingMode.DOWN));
        double near = root.doubleValue();
        boolean isAbove = new BigDecimal(near).compareTo(root) > 0;
        dueDouble("length down", x.length(1, false), isAbove ? Math.nextDown(near) : near);
        dueDouble("length up", x.length(1, true), isAbove ? near : Math.nextUp(near));
    }

    @Says("beside them the plain sum of doubles, and by how much it is wrong")
    private static void byHowMuchThePlainSumIsWrong() {
        LongSums x = new LongSums();
        x.row(0, DOUBLES, PLACES);
        BigInteger sum = BigInteger.ZERO;
        double plain = 0.0;
        for (int i = 0; i < PLACES; i++) {
            put(x, 0, i, someWhole(i), -40 - i);
            sum = sum.add(units(someWhole(i), -40 - i));
            plain += someWhole(i) * Math.scalb(1.0, -40 - i);
        }
        dueDouble("plain", x.plain(0, 0, PLACES), plain);
        x.keeper(0, SUMS);
        due("error", x.error(0, 0, 0, PLACES), PLACES);
        BigDecimal unit = new BigDecimal(BigInteger.ONE.shiftLeft(-LOWEST));
        BigInteger missed = sum.subtract(new BigDecimal(plain).multiply(unit).toBigIntegerExact());
        due("the plain sum is wrong", missed.signum() == 0 ? 0 : 1, 1);
        holdsEachBit(x, 0, missed);
    }

    // ---- at most 512 calls

    private static LongSums used(int calls) {
        LongSums x = new LongSums();
        fill(x, 0, DOUBLES, 0, 3, 4);
        fill(x, 1, INTS, 0, 5, 12);
        x.keeper(0, SUMS);
        x.keeper(1, SQUARES);
        x.add(0, 0, 0, 2);
        x.add(1, 0, 0, 2);
        for (int call = 11; call <= calls; call++) {
            due("look", x.look(1, INTS, call % 2), call % 2 == 0 ? 5 : 12);
        }
        return x;
    }

    @Says("An object is used for at most 512 calls (the 512th answers as the others do: rows)")
    private static void lastCallOfRows() {
        int before = LAST_CALL - 1;
        due("row", used(before).row(11, FLOATS, 40), 40);
        due("lose", used(before).lose(1), 2);
        due("put", used(before).put(0, 1, -1, 971), 0);
        due("mark", used(before).mark(0, 1, 2), 0);
        due("copy", used(before).copy(0, 0, 0, 1, 1), 1);
        due("look", used(before).look(1, INTS, 1), 12);
        dueDouble("see", used(before).see(0, 1), 4.0);
        due("compare", used(before).compare(1, 0, 4.5), 3);
    }

    @Says("An object is used for at most 512 calls (the 512th answers as the others do: keepers)")
    private static void lastCallOfKeepers() {
        int before = LAST_CALL - 1;
        due("keeper", used(before).keeper(5, PAIRS), 0);
        due("add", used(before).add(0, 1, 0, -2), 2);
        due("pair", used(before).pair(1, 0, 1, 0, 2), 2);
        due("merge", used(before).merge(1, 1), 0);
        due("clear", used(before).clear(1), 0);
        due("error", used(before).error(0, 1, 0, 2), 2);
        dueDouble("plain", used(before).plain(0, 0, 2), 7.0);
    }

    @Says("An object is used for at most 512 calls (the 512th answers as the others do: what is told)")
    private static void lastCallOfWhatIsTold() {
        int before = LAST_CALL - 1;
        due("sort", used(before).sort(0), 0);
        due("seen", used(before).seen(0, 2), 0);
        dueDouble("tell", used(before).tell(1, 0, true), 25.0);
        dueDouble("mean", used(before).mean(0, 2, 0), 3.5);
        dueDouble("length", used(before).length(1, true), 5.0);
        due("sign", used(before).sign(0), 1);
        due("high", used(before).high(1), 4);
        due("bit", used(before).bit(1, 3), 1);
        due("order", used(before).order(0, 1), 2);
        due("undo", used(before).undo(), 1);
        due("count", used(before).count(4), 4);
        due("refused", used(before).row(12, 0, 0), -3);
    }

    @Says("An object is used for at most 512 calls (what was done by the 510th is taken back by the 511th)")
    private static void lastCallsTogether() {
        LongSums x = used(LAST_CALL - 3);
        due("add", x.add(0, 1, 0, 2), 2);
        due("undo", x.undo(), 0);
        dueDouble("tell", x.tell(0, 0, false), 7.0);
    }

    @Says("An object is used for at most 512 calls (as many merges as that leaves)")
    private static void asFarAsCallsGo() {
        LongSums x = new LongSums();
        x.row(0, DOUBLES, PLACES);
        for (int i = 0; i < PLACES; i++) {
            put(x, 0, i, FULL, 971);
        }
        x.keeper(0, SQUARES);
        x.add(0, 0, 0, PLACES);
        BigInteger sum = BigInteger.valueOf(FULL).pow(2).multiply(BigInteger.valueOf(PLACES)).shiftLeft(2 * 971 - LOWEST);
        int merges = LAST_CALL - 3 - PLACES - 5;
        for (int i = 0; i < merges; i++) {
            x.merge(0, 0);
        }
        sum = sum.shiftLeft(merges);
        due("high", x.high(0), sum.bitLength() - 1 + LOWEST);
        due("sign", x.sign(0), 1);
        dueDouble("mean down", x.mean(0, 1000000, 3), Double.MAX_VALUE);
        dueDouble("length up", x.length(0, true), Double.POSITIVE_INFINITY);
        due("bit(0, 2200)", x.bit(0, 2200), sum.testBit(2200 - LOWEST) ? 1 : 0);
    }

    // ---- The public face

    @Says("public static final int NONE = -1, OUTSIDE = -3, NOTHING = -11, CAST = -12, INDEX = -13, SIZE = -14")
    private static void constantsWithTheirValues() {
        due("NONE", LongSums.NONE, -1);
        due("OUTSIDE", LongSums.OUTSIDE, -3);
        due("NOTHING", LongSums.NOTHING, -11);
        due("CAST", LongSums.CAST, -12);
        due("INDEX", LongSums.INDEX, -13);
        due("SIZE", LongSums.SIZE, -14);
        due("six constants", LongSums.class.getFields().length, 6);
    }

    // A switch takes constants alone: this does not compile where one is found only when the program runs.
    @Says("public static final int (constants)")
    private static void constantsAreConstant() {
        int found = 0;
        for (int value = -20; value <= 0; value++) {
            switch (value) {
                case LongSums.NONE, LongSums.OUTSIDE, LongSums.NOTHING, LongSums.CAST, LongSums.INDEX, LongSums.SIZE:
                    found++;
                    break;
                default:
                    break;
            }
        }
        due("constants, all different", found, 6);
    }

    @Says("public LongSums() (any number of objects, each by itself)")
    private static void objectsByThemselves() {
        LongSums one = new LongSums();
        LongSums other = new LongSums();
        fill(one, 0, LONGS, 0, 7);
        one.keeper(0, SUMS);
        one.add(0, 0, 0, 1);
        due("lose", other.lose(0), LongSums.NOTHING);
        due("sort", other.sort(0), LongSums.NOTHING);
        due("undo", other.undo(), LongSums.NONE);
        fill(other, 0, LONGS, 0, 8, 9);
        other.keeper(0, SUMS);
        other.add(0, 0, 0, -2);
        dueDouble("tell", one.tell(0, 0, false), 7.0);
        dueDouble("tell", other.tell(0, 0, false), -17.0);
        due("count(3)", one.count(3), 1);
        due("count(4)", other.count(4), 2);
    }

    public static void main(String[] args) throws IllegalAccessException {
        for (Method method : WhatItIsTest.class.getDeclaredMethods()) {
            Says says = method.getAnnotation(Says.class);
            if (says == null) {
                continue;
            }
            tests++;
            sentence = method.getName() + ": \"" + says.value() + "\"";
            try {
                method.invoke(null);
            } catch (InvocationTargetException thrown) {
                wrong++;
                System.out.println(sentence + "\n    threw " + thrown.getCause());
            }
        }
        System.out.println(wrong == 0 ? "all " + tests + " sentences hold" : wrong + " answers are not as due");
        if (wrong != 0 || tests == 0) {
            System.exit(1);
        }
    }
}
