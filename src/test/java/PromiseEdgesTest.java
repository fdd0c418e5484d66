import java.lang.annotation.Retention;
import java.lang.annotation.RetentionPolicy;
import java.lang.reflect.InvocationTargetException;
import java.lang.reflect.Method;
import java.math.BigDecimal;

// The document's sections "Promise 1" to "Promise 27": each sentence that names a boundary case has a test of its
// own, told by @Says.
public final class PromiseEdgesTest {
    @Retention(RetentionPolicy.RUNTIME)
    private @interface Says {
        String value();
    }

    private static final int NONE = -1, OUTSIDE = -3, NOTHING = -11, CAST = -12, INDEX = -13, SIZE = -14;
    private static final int BYTES = 0, SHORTS = 1, INTS = 2, LONGS = 3, FLOATS = 4, DOUBLES = 5;
    private static final int SUMS = 0, PAIRS = 1, SQUARES = 2;
    private static final double ENDLESS = Double.POSITIVE_INFINITY, MOST = Double.MAX_VALUE, LEAST = Double.MIN_VALUE;
    private static final double MOST_FLOAT = Float.MAX_VALUE, LEAST_FLOAT = Float.MIN_VALUE;
    private static final double NO_NUMBER = Double.NaN;
    private static final long FULL = (1L << 53) - 1;
    private static final int LOW = Integer.MIN_VALUE, HIGH = Integer.MAX_VALUE;
    private static final int[] NOT_ROWS = {-1, 12, LOW, HIGH};
    private static final int[] NOT_KEEPERS = {-1, 6, LOW, HIGH};

    private static int wrong = 0;
    private static int tests = 0;
    private static String sentence = "";

    private static void due(String call, long got, long want) {
        if (got != want) {
            wrong++;
            System.out.println(sentence + "\n    " + call + " answered " + got + ", due is " + want);
        }
    }

    // To the last bit, so that 0.0 and -0.0 are told apart.
    private static void dueDouble(String call, double got, double want) {
        if (Double.doubleToLongBits(got) != Double.doubleToLongBits(want)) {
            wrong++;
            System.out.println(sentence + "\n    " + call + " answered " + got + ", due is " + want);
        }
    }

    // ---- what the tests share

    // Any double is put or marked in a place.
    private static void set(LongSums x, int row, int place, double number) {
        long bits = Double.doubleToRawLongBits(number);
        if (number != number || Math.abs(number) == ENDLESS || bits == Long.MIN_VALUE) {
            int what = number != number ? 2 : number == 0.0 ? 3 : number > 0 ? 0 : 1;
            due("mark(" + row + ", " + place + ", " + what + ")", x.mark(row, place, what), 0);
            return;
        }
        if (number == (long) number && Math.abs(number) < 0x1p53) {
            due("put of " + number, x.put(row, place, (long) number, 0), 0);
            return;
        }
        int high = (int) (bits >>> 52) & 2047;
        long whole = bits & (FULL >>> 1) | (high == 0 ? 0L : 1L << 52);
        long m = number < 0 ? -whole : whole;
        due("put(" + row + ", " + place + ", " + m + ", ..)", x.put(row, place, m, Math.max(high, 1) - 1075), 0);
    }

    private static void fill(LongSums x, int row, int kind, double... numbers) {
        due("row", x.row(row, kind, numbers.length), numbers.length);
        for (int i = 0; i < numbers.length; i++) {
            set(x, row, i, numbers[i]);
        }
    }

    private static LongSums withRow(int kind, double... numbers) {
        LongSums x = new LongSums();
        fill(x, 0, kind, numbers);
        return x;
    }

    // Row 0 has the numbers; keeper 0 has them ADDED, keeper 1 TAKEN.
    private static LongSums sums(double... numbers) {
        LongSums x = withRow(DOUBLES, numbers);
        x.keeper(0, SUMS);
        x.keeper(1, SUMS);
        due("add", x.add(0, 0, 0, numbers.length), numbers.length);
        due("add", x.add(1, 0, 0, -numbers.length), numbers.length);
        return x;
    }

    // Rows 0 and 1 have factors, two by two; keeper 0 has their products ADDED, keeper 1 TAKEN.
    private static LongSums pairs(double... factors) {
        LongSums x = new LongSums();
        int many = factors.length / 2;
        x.row(0, DOUBLES, many);
        x.row(1, DOUBLES, many);
        for (int i = 0; i < many; i++) {
            set(x, 0, i, factors[2 * i]);
            set(x, 1, i, factors[2 * i + 1]);
        }
        x.keeper(0, PAIRS);
        x.keeper(1, PAIRS);
        due("pair", x.pair(0, 0, 1, 0, many), many);
        due("pair", x.pair(1, 0, 1, 0, -many), many);
        return x;
    }

    // Keepers of each KIND (0, 1, 2), with a sum above 0; keepers 3 .. 5 are MISSING. Row 0 has 3 doubles, row 1 has
    // 2 longs, row 2 has none, the others are MISSING.
    private static LongSums bench() {
        LongSums x = withRow(DOUBLES, 3.0, 4.0, 5.0);
        fill(x, 1, LONGS, 7.0, 8.0);
        x.row(2, DOUBLES, 0);
        for (int kind = SUMS; kind <= SQUARES; kind++) {
            x.keeper(kind, kind);
        }
        x.add(0, 0, 0, 3);
        x.pair(1, 0, 0, 0, 3);
        x.add(2, 0, 0, 2);
        return x;
    }

    // That all of bench() is as it was.
    private static void benchIsAsItWas(LongSums x) {
        dueDouble("tell(0, 0, false)", x.tell(0, 0, false), 12.0);
        dueDouble("tell(1, 0, false)", x.tell(1, 0, false), 50.0);
        dueDouble("tell(2, 0, false)", x.tell(2, 0, false), 25.0);
        dueDouble("plain(0, 0, 3)", x.plain(0, 0, 3), 12.0);
        dueDouble("plain(1, 0, 2)", x.plain(1, 0, 2), 15.0);
        int[] counts = {3, 3, 6, 5, 8, 0};
        for (int what = 0; what <= 5; what++) {
            due("count(" + what + ")", x.count(what), counts[what]);
        }
        for (int keeper = 0; keeper <= 2; keeper++) {
            seenIs(x, keeper, 0, 0, 0);
        }
        for (int keeper : new int[] {2, 1, 0, 2, 1, 0, NONE}) {
            due("undo", x.undo(), keeper);
        }
    }

    private static void seenIs(LongSums x, int keeper, int noNumber, int above, int below) {
        due("seen(" + keeper + ", 0)", x.seen(keeper, 0), noNumber);
        due("seen(" + keeper + ", 1)", x.seen(keeper, 1), above);
        due("seen(" + keeper + ", 2)", x.seen(keeper, 2), below);
    }

    private static void rowIs(LongSums x, int row, double... numbers) {
        for (int i = 0; i < numbers.length; i++) {
            dueDouble("see(" + row + ", " + i + ")", x.see(row, i), numbers[i]);
        }
        due("compare beyond the last place", x.compare(row, numbers.length, 0.0), INDEX);
    }

    // ---- promise 1

    @Says("1: All ROWS .. are MISSING")
    private static void newObjectHasNoRows() {
        LongSums x = new LongSums();
        for (int row = 0; row <= 11; row++) {
            due("lose(" + row + ")", x.lose(row), NOTHING);
        }
        due("count(0)", x.count(0), 0);
        due("count(3)", x.count(3), 0);
    }

    @Says("1: All .. KEEPERS are MISSING")
    private static void newObjectHasNoKeepers() {
        LongSums x = new LongSums();
        for (int keeper = 0; keeper <= 5; keeper++) {
            due("sort(" + keeper + ")", x.sort(keeper), NOTHING);
        }
        due("count(1)", x.count(1), 0);
        due("count(5)", x.count(5), 0);
    }

    @Says("1: new LongSums() (nothing was changed or ADDED, and nothing comes from another object)")
    private static void newObjectHasNoChanges() {
        LongSums other = bench();
        LongSums x = new LongSums();
        for (int what = 0; what <= 5; what++) {
            due("count(" + what + ")", x.count(what), 0);
        }
        due("undo", x.undo(), NONE);
        benchIsAsItWas(other);
    }

    // ---- promise 2

    @Says("2: A ROW is new: its KIND and how many places: that")
    private static void rowAnswersPlaces() {
        LongSums x = new LongSums();
        for (int places = 0; places <= 40; places++) {
            due("row(11, 5, " + places + ")", x.row(11, DOUBLES, places), places);
            due("count(3)", x.count(3), places);
            due("put in the last place", x.put(11, places - 1, 1, 0), places == 0 ? INDEX : 0);
            due("put beyond the last place", x.put(11, places, 1, 0), INDEX);
        }
        due("count(0)", x.count(0), 1);
    }

    @Says("2: A ROW is new (in the place of one that was longer, or shorter, or of another KIND)")
    private static void rowTakesAnothersPlace() {
        LongSums x = withRow(DOUBLES, 1.0, 2.0, 3.0);
        due("row", x.row(0, DOUBLES, 2), 2);
        rowIs(x, 0, 0.0, 0.0);
        set(x, 0, 1, 9.0);
        due("row", x.row(0, DOUBLES, 3), 3);
        rowIs(x, 0, 0.0, 0.0, 0.0);
        due("row", x.row(0, BYTES, 1), 1);
        due("look", x.look(0, BYTES, 0), 0);
        due("look", x.look(0, BYTES, 1), INDEX);
        due("look", x.look(0, LONGS, 0), CAST);
        due("count(0)", x.count(0), 1);
        due("count(3)", x.count(3), 1);
    }

    @Says("2: OUTSIDE: row")
    private static void rowOutside() {
        LongSums x = bench();
        for (int row : NOT_ROWS) {
            due("row(" + row + ", 5, 1)", x.row(row, DOUBLES, 1), OUTSIDE);
        }
        benchIsAsItWas(x);
    }

    @Says("2: OUTSIDE: kind")
    private static void rowOutsideKind() {
        LongSums x = bench();
        for (int kind : new int[] {-1, 6, LOW, HIGH}) {
            due("row(0, " + kind + ", 3)", x.row(0, kind, 3), OUTSIDE);
            due("row(3, " + kind + ", 3)", x.row(3, kind, 3), OUTSIDE);
        }
        benchIsAsItWas(x);
    }

    @Says("2: OUTSIDE: places above 40")
    private static void rowOutsidePlaces() {
        LongSums x = bench();
        due("row(0, 5, 41)", x.row(0, DOUBLES, 41), OUTSIDE);
        due("row(3, 5, 41)", x.row(3, DOUBLES, 41), OUTSIDE);
        due("row(0, 5, the greatest int)", x.row(0, DOUBLES, HIGH), OUTSIDE);
        benchIsAsItWas(x);
    }

    @Says("2: SIZE (a size below 0)")
    private static void rowSize() {
        LongSums x = bench();
        due("row(0, 5, -1)", x.row(0, DOUBLES, -1), SIZE);
        due("row(3, 0, -1)", x.row(3, BYTES, -1), SIZE);
        due("row(0, 5, the least int)", x.row(0, DOUBLES, LOW), SIZE);
        benchIsAsItWas(x);
    }

    @Says("2: OUTSIDE: row, kind, ..; SIZE (two together: the first)")
    private static void rowOutsideFirst() {
        LongSums x = bench();
        due("row(-1, 5, -1)", x.row(-1, DOUBLES, -1), OUTSIDE);
        due("row(12, 5, -1)", x.row(12, DOUBLES, -1), OUTSIDE);
        due("row(0, -1, -1)", x.row(0, -1, -1), OUTSIDE);
        due("row(0, 6, -1)", x.row(0, 6, -1), OUTSIDE);
        due("row(0, 6, 41)", x.row(0, 6, 41), OUTSIDE);
        benchIsAsItWas(x);
    }

    @Says("2: A ROW is new (what keepers have of the one before stays)")
    private static void rowLeavesKeepers() {
        LongSums x = bench();
        x.row(0, DOUBLES, 3);
        dueDouble("tell(0, 0, false)", x.tell(0, 0, false), 12.0);
        due("count(2)", x.count(2), 6);
        due("count(4)", x.count(4), 8);
        due("undo", x.undo(), 2);
        rowIs(x, 0, 0.0, 0.0, 0.0);
    }

    // ---- promise 3

    @Says("3: how many places it had")
    private static void loseAnswersPlaces() {
        for (int kind = BYTES; kind <= DOUBLES; kind++) {
            LongSums x = new LongSums();
            for (int places : new int[] {0, 1, 40}) {
                x.row(11, kind, places);
                due("lose(11)", x.lose(11), places);
                due("count(0)", x.count(0), 0);
                due("count(3)", x.count(3), 0);
            }
        }
    }

    @Says("3: A ROW is MISSING then")
    private static void loseMakesMissing() {
        LongSums x = bench();
        x.keeper(3, SUMS);
        due("lose(0)", x.lose(0), 3);
        due("put", x.put(0, 0, 1, 0), NOTHING);
        due("mark", x.mark(0, 0, 0), NOTHING);
        due("copy from it", x.copy(0, 0, 2, 0, 0), NOTHING);
        due("copy to it", x.copy(2, 0, 0, 0, 0), NOTHING);
        due("look", x.look(0, LONGS, 0), NOTHING);
        dueDouble("see", x.see(0, 0), 0.0);
        due("compare", x.compare(0, 0, 3.0), NOTHING);
        due("add", x.add(3, 0, 0, 1), NOTHING);
        due("pair", x.pair(1, 0, 2, 0, 0), NOTHING);
        due("pair", x.pair(1, 2, 0, 0, 0), NOTHING);
        due("error", x.error(3, 0, 0, 1), NOTHING);
        dueDouble("plain", x.plain(0, 0, 1), 0.0);
        due("lose(0)", x.lose(0), NOTHING);
        dueDouble("tell: what keepers have stays", x.tell(0, 0, false), 12.0);
        due("count(0): the others stay", x.count(0), 2);
        due("count(3)", x.count(3), 2);
    }

    @Says("3: OUTSIDE")
    private static void loseOutside() {
        LongSums x = bench();
        for (int row : NOT_ROWS) {
            due("lose(" + row + ")", x.lose(row), OUTSIDE);
        }
        benchIsAsItWas(x);
    }

    @Says("3: NOTHING")
    private static void loseNothing() {
        LongSums x = bench();
        for (int row = 3; row <= 11; row++) {
            due("lose(" + row + ")", x.lose(row), NOTHING);
        }
        benchIsAsItWas(x);
    }

    // ---- promise 4

    @Says("4: A place gets a NUMBER: 0 (the first place, the last one, and no other)")
    private static void putFirstAndLast() {
        for (int kind = BYTES; kind <= DOUBLES; kind++) {
            LongSums x = new LongSums();
            x.row(11, kind, 40);
            due("put(11, 0, 5, 0)", x.put(11, 0, 5, 0), 0);
            due("put(11, 39, -6, 0)", x.put(11, 39, -6, 0), 0);
            for (int place = 0; place < 40; place++) {
                double want = place == 0 ? 5.0 : place == 39 ? -6.0 : 0.0;
                due("compare(11, " + place + ", " + want + ")", x.compare(11, place, want), 2);
            }
        }
    }

    @Says("4: A place gets a NUMBER (where something else stood)")
    private static void putOverMarks() {
        for (int kind = FLOATS; kind <= DOUBLES; kind++) {
            for (int what = 0; what <= 5; what++) {
                LongSums x = new LongSums();
                x.row(0, kind, 1);
                x.mark(0, 0, what);
                due("put(0, 0, 6, -1)", x.put(0, 0, 6, -1), 0);
                rowIs(x, 0, 3.0);
                x.mark(0, 0, what);
                due("put(0, 0, 0, 0)", x.put(0, 0, 0, 0), 0);
                rowIs(x, 0, 0.0);
            }
        }
    }

    @Says("4: OUTSIDE: row")
    private static void putOutsideRow() {
        LongSums x = bench();
        for (int row : NOT_ROWS) {
            due("put(" + row + ", 0, 1, 0)", x.put(row, 0, 1, 0), OUTSIDE);
        }
        benchIsAsItWas(x);
    }

    @Says("4: OUTSIDE: m")
    private static void putOutsideWhole() {
        LongSums x = bench();
        for (int row = 0; row <= 1; row++) {
            due("put of 2^53", x.put(row, 0, FULL + 1, 0), OUTSIDE);
            due("put of -2^53", x.put(row, 0, -FULL - 1, 0), OUTSIDE);
            due("put of the greatest long", x.put(row, 0, Long.MAX_VALUE, 0), OUTSIDE);
            due("put of the least long", x.put(row, 0, Long.MIN_VALUE, 0), OUTSIDE);
        }
        benchIsAsItWas(x);
    }

    @Says("4: OUTSIDE: e")
    private static void putOutsidePower() {
        LongSums x = bench();
        for (int e : new int[] {-1075, 972, LOW, HIGH}) {
            due("put(0, 0, 1, " + e + ")", x.put(0, 0, 1, e), OUTSIDE);
            due("put(1, 0, 1, " + e + ")", x.put(1, 0, 1, e), OUTSIDE);
        }
        benchIsAsItWas(x);
    }

    @Says("4: NOTHING")
    private static void putNothing() {
        LongSums x = bench();
        due("put(3, 0, 1, 0)", x.put(3, 0, 1, 0), NOTHING);
        due("put(11, 0, 1, 0)", x.put(11, 0, 1, 0), NOTHING);
        benchIsAsItWas(x);
    }

    @Says("4: INDEX")
    private static void putIndex() {
        LongSums x = bench();
        for (int place : new int[] {-1, 3, 4, 39, 40, LOW, HIGH}) {
            due("put(0, " + place + ", 1, 0)", x.put(0, place, 1, 0), INDEX);
        }
        due("put(1, 2, 1, 0)", x.put(1, 2, 1, 0), INDEX);
        due("put in a row of no places", x.put(2, 0, 1, 0), INDEX);
        due("put in a row of no places", x.put(2, -1, 1, 0), INDEX);
        benchIsAsItWas(x);
    }

    @Says("4: OUTSIDE: row, m, e; NOTHING; INDEX (two together: the first)")
    private static void putInOrder() {
        LongSums x = bench();
        due("put: row and INDEX", x.put(12, -1, 1, 0), OUTSIDE);
        due("put: m and NOTHING", x.put(3, 0, FULL + 1, 0), OUTSIDE);
        due("put: m and INDEX", x.put(0, 3, -FULL - 1, 0), OUTSIDE);
        due("put: e and NOTHING", x.put(3, 0, 1, 972), OUTSIDE);
        due("put: e and INDEX", x.put(0, 3, 1, -1075), OUTSIDE);
        due("put: NOTHING and INDEX", x.put(3, -1, 1, 0), NOTHING);
        due("put: NOTHING and INDEX", x.put(3, 40, 1, 0), NOTHING);
        benchIsAsItWas(x);
    }

    // ---- promise 5

    @Says("5: what 0 ENDLESS above, 1 ENDLESS below, 2 NO NUMBER, 3 -0.0, 4 the greatest number, 5 the least above 0: 0")
    private static void markEach() {
        double[] floats = {ENDLESS, -ENDLESS, 0.0, -0.0, MOST_FLOAT, LEAST_FLOAT};
        double[] doubles = {ENDLESS, -ENDLESS, 0.0, -0.0, MOST, LEAST};
        int[] sorts = {1, 2, 3, 0, 0, 0};
        for (int kind = FLOATS; kind <= DOUBLES; kind++) {
            for (int what = 0; what <= 5; what++) {
                double want = kind == FLOATS ? floats[what] : doubles[what];
                LongSums x = new LongSums();
                x.row(11, kind, 40);
                due("mark(11, 0, " + what + ")", x.mark(11, 0, what), 0);
                due("mark(11, 39, " + what + ")", x.mark(11, 39, what), 0);
                dueDouble("see(11, 0)", x.see(11, 0), want);
                dueDouble("see(11, 39)", x.see(11, 39), want);
                dueDouble("see(11, 1)", x.see(11, 1), 0.0);
                dueDouble("see(11, 38)", x.see(11, 38), 0.0);
                due("compare", x.compare(11, 0, want), what == 2 ? 0 : 2);
                x.keeper(0, SUMS);
                x.add(0, 11, 39, 1);
                due("sort", x.sort(0), sorts[what]);
            }
        }
    }

    @Says("5: 4 the greatest number, 5 the least above 0 (of the KIND, in a keeper)")
    private static void markGreatestAndLeast() {
        LongSums x = new LongSums();
        x.row(0, FLOATS, 2);
        x.row(1, DOUBLES, 2);
        x.keeper(0, SUMS);
        for (int row = 0; row <= 1; row++) {
            x.mark(row, 0, 4);
            x.mark(row, 1, 5);
            x.clear(0);
            x.add(0, row, 0, 1);
            due("high of the greatest", x.high(0), row == 0 ? 127 : 1023);
            due("its lowest bit", x.bit(0, row == 0 ? 104 : 971), 1);
            due("one below", x.bit(0, row == 0 ? 103 : 970), 0);
            x.clear(0);
            x.add(0, row, 1, 1);
            due("high of the least", x.high(0), row == 0 ? -149 : -1074);
        }
    }

    @Says("5: OUTSIDE: row, what")
    private static void markOutside() {
        LongSums x = bench();
        for (int row : NOT_ROWS) {
            due("mark(" + row + ", 0, 0)", x.mark(row, 0, 0), OUTSIDE);
        }
        for (int what : new int[] {-1, 6, LOW, HIGH}) {
            due("mark(0, 0, " + what + ")", x.mark(0, 0, what), OUTSIDE);
        }
        benchIsAsItWas(x);
    }

    @Says("5: NOTHING")
    private static void markNothing() {
        LongSums x = bench();
        due("mark(3, 0, 0)", x.mark(3, 0, 0), NOTHING);
        due("mark(11, 0, 5)", x.mark(11, 0, 5), NOTHING);
        benchIsAsItWas(x);
    }

    @Says("5: A place of a row of floats or doubles .. CAST")
    private static void markCast() {
        for (int kind = BYTES; kind <= DOUBLES; kind++) {
            LongSums x = withRow(kind, 5.0);
            for (int what = 0; what <= 5; what++) {
                due("mark of KIND " + kind, x.mark(0, 0, what), kind >= FLOATS ? 0 : CAST);
            }
            due("compare", x.compare(0, 0, 5.0), kind >= FLOATS ? 1 : 2);
        }
    }

    @Says("5: INDEX")
    private static void markIndex() {
        LongSums x = bench();
        for (int place : new int[] {-1, 3, 4, 39, 40, LOW, HIGH}) {
            due("mark(0, " + place + ", 0)", x.mark(0, place, 0), INDEX);
        }
        due("mark in a row of no places", x.mark(2, 0, 0), INDEX);
        benchIsAsItWas(x);
    }

    @Says("5: OUTSIDE: row, what; NOTHING; CAST; INDEX (two together: the first)")
    private static void markInOrder() {
        LongSums x = bench();
        due("mark: row and INDEX", x.mark(-1, -1, 0), OUTSIDE);
        due("mark: what and NOTHING", x.mark(3, 0, 6), OUTSIDE);
        due("mark: what and CAST", x.mark(1, 0, -1), OUTSIDE);
        due("mark: what and INDEX", x.mark(0, 3, 6), OUTSIDE);
        due("mark: NOTHING and INDEX", x.mark(3, -1, 0), NOTHING);
        due("mark: CAST and INDEX", x.mark(1, 2, 0), CAST);
        due("mark: CAST and INDEX", x.mark(1, -1, 0), CAST);
        benchIsAsItWas(x);
    }

    // ---- promise 6

    @Says("6: So many places of a ROW from one place on are those of another ROW of the same KIND from another place on")
    private static void copyPlaces() {
        LongSums x = withRow(DOUBLES, 1.0, 2.0, 3.0, 4.0);
        fill(x, 1, DOUBLES, 5.0, 6.0, 7.0);
        due("copy to the last place", x.copy(0, 0, 1, 2, 1), 1);
        rowIs(x, 1, 5.0, 6.0, 1.0);
        due("copy from the last place", x.copy(0, 3, 1, 0, 1), 1);
        rowIs(x, 1, 4.0, 6.0, 1.0);
        due("copy of all places", x.copy(1, 0, 0, 1, 3), 3);
        rowIs(x, 0, 1.0, 4.0, 6.0, 1.0);
        rowIs(x, 1, 4.0, 6.0, 1.0);
    }

    @Says("6: So many places: many (none, one, all the 40)")
    private static void copyNoneAndAll() {
        for (int kind = BYTES; kind <= DOUBLES; kind++) {
            LongSums x = new LongSums();
            x.row(10, kind, 40);
            x.row(11, kind, 40);
            for (int place = 0; place < 40; place++) {
                x.put(10, place, place + 1, 0);
                x.put(11, place, -place - 1, 0);
            }
            due("copy of none", x.copy(10, 0, 11, 0, 0), 0);
            due("copy of none at the end", x.copy(10, 40, 11, 40, 0), 0);
            dueDouble("plain", x.plain(11, 0, 40), -820.0);
            due("copy of one", x.copy(10, 39, 11, 0, 1), 1);
            dueDouble("plain", x.plain(11, 0, 40), -779.0);
            due("copy of all", x.copy(10, 0, 11, 0, 40), 40);
            for (int place = 0; place < 40; place++) {
                due("compare", x.compare(11, place, place + 1.0), 2);
                due("compare", x.compare(10, place, place + 1.0), 2);
            }
        }
    }

    @Says("6: (or the same ROW) .. as they were: towards the end")
    private static void copyOnItselfUp() {
        LongSums x = withRow(DOUBLES, 1.0, 2.0, 3.0, 4.0, 5.0);
        due("copy(0, 0, 0, 1, 4)", x.copy(0, 0, 0, 1, 4), 4);
        rowIs(x, 0, 1.0, 1.0, 2.0, 3.0, 4.0);
    }

    @Says("6: (or the same ROW) .. as they were: towards the beginning")
    private static void copyOnItselfDown() {
        LongSums x = withRow(DOUBLES, 1.0, 2.0, 3.0, 4.0, 5.0);
        due("copy(0, 1, 0, 0, 4)", x.copy(0, 1, 0, 0, 4), 4);
        rowIs(x, 0, 2.0, 3.0, 4.0, 5.0, 5.0);
    }

    @Says("6: (or the same ROW) .. as they were: to the same places, or side by side")
    private static void copyOnItselfSame() {
        LongSums x = withRow(LONGS, 1.0, 2.0, 3.0, 4.0);
        due("copy(0, 0, 0, 0, 4)", x.copy(0, 0, 0, 0, 4), 4);
        due("copy(0, 0, 0, 2, 2)", x.copy(0, 0, 0, 2, 2), 2);
        for (int place = 0; place < 4; place++) {
            due("look", x.look(0, LONGS, place), place % 2 + 1);
        }
    }

    @Says("6: as they were (ENDLESS, NO NUMBER, -0.0, too, and numbers over them)")
    private static void copyMarks() {
        for (int kind = FLOATS; kind <= DOUBLES; kind++) {
            LongSums x = withRow(kind, ENDLESS, -ENDLESS, NO_NUMBER, -0.0, 1.5);
            fill(x, 1, kind, 2.5, NO_NUMBER, 3.5, ENDLESS, NO_NUMBER);
            due("copy", x.copy(0, 0, 1, 0, 5), 5);
            rowIs(x, 1, ENDLESS, -ENDLESS, 0.0, -0.0, 1.5);
            due("compare", x.compare(1, 2, 0.0), 0);
            due("compare", x.compare(1, 4, 1.5), 2);
            due("copy", x.copy(0, 4, 0, 2, 1), 1);
            rowIs(x, 0, ENDLESS, -ENDLESS, 1.5, -0.0, 1.5);
        }
    }

    @Says("6: OUTSIDE: rows")
    private static void copyOutside() {
        LongSums x = bench();
        for (int row : NOT_ROWS) {
            due("copy from " + row, x.copy(row, 0, 0, 0, 1), OUTSIDE);
            due("copy to " + row, x.copy(0, 0, row, 0, 1), OUTSIDE);
        }
        benchIsAsItWas(x);
    }

    @Says("6: NOTHING: one is MISSING")
    private static void copyNothing() {
        LongSums x = bench();
        due("copy from 3", x.copy(3, 0, 0, 0, 1), NOTHING);
        due("copy to 11", x.copy(0, 0, 11, 0, 1), NOTHING);
        due("copy from 3 to 3", x.copy(3, 0, 3, 0, 0), NOTHING);
        benchIsAsItWas(x);
    }

    @Says("6: CAST: the KINDS are not the same")
    private static void copyCast() {
        LongSums x = new LongSums();
        for (int kind = BYTES; kind <= DOUBLES; kind++) {
            x.row(kind, kind, 1);
            x.row(6 + kind, kind, 1);
        }
        for (int from = 0; from <= 5; from++) {
            for (int to = 6; to <= 11; to++) {
                due("copy of KIND " + from + " to " + (to - 6), x.copy(from, 0, to, 0, 1), from == to - 6 ? 1 : CAST);
                due("copy of none", x.copy(from, 0, to, 0, 0), from == to - 6 ? 0 : CAST);
            }
        }
    }

    @Says("6: INDEX: one has no such places")
    private static void copyIndex() {
        LongSums x = bench();
        fill(x, 3, DOUBLES, 11.0, 12.0, 13.0, 14.0);
        due("copy: one more than the other has", x.copy(3, 0, 0, 0, 4), INDEX);
        due("copy: one more than it has", x.copy(0, 0, 3, 0, 4), INDEX);
        due("copy from -1", x.copy(3, -1, 0, 0, 1), INDEX);
        due("copy to -1", x.copy(3, 0, 0, -1, 1), INDEX);
        due("copy from beyond", x.copy(3, 4, 0, 0, 1), INDEX);
        due("copy to beyond", x.copy(3, 0, 0, 3, 1), INDEX);
        due("copy of none from beyond the end", x.copy(3, 5, 0, 0, 0), INDEX);
        due("copy of none to beyond the end", x.copy(3, 0, 0, 4, 0), INDEX);
        due("copy of none from -1", x.copy(3, -1, 0, 0, 0), INDEX);
        due("copy of none to -1", x.copy(3, 0, 0, -1, 0), INDEX);
        due("copy", x.copy(3, 1, 0, 1, HIGH), INDEX);
        due("copy", x.copy(3, HIGH, 0, 0, 1), INDEX);
        due("copy", x.copy(3, 0, 0, HIGH, 1), INDEX);
        due("copy", x.copy(3, LOW, 0, LOW, HIGH), INDEX);
        rowIs(x, 0, 3.0, 4.0, 5.0);
        rowIs(x, 3, 11.0, 12.0, 13.0, 14.0);
    }

    @Says("6: INDEX: many is below 0")
    private static void copyBelowNought() {
        LongSums x = bench();
        due("copy(0, 0, 0, 0, -1)", x.copy(0, 0, 0, 0, -1), INDEX);
        due("copy(0, 1, 0, 2, -1)", x.copy(0, 1, 0, 2, -1), INDEX);
        due("copy(0, 3, 0, 3, -3)", x.copy(0, 3, 0, 3, -3), INDEX);
        due("copy(0, 0, 0, 1, the least int)", x.copy(0, 0, 0, 1, LOW), INDEX);
        benchIsAsItWas(x);
    }

    @Says("6: OUTSIDE: rows; NOTHING; CAST; INDEX (two together: the first)")
    private static void copyInOrder() {
        LongSums x = bench();
        due("copy: OUTSIDE and NOTHING", x.copy(12, 0, 3, 0, 1), OUTSIDE);
        due("copy: NOTHING and OUTSIDE", x.copy(3, 0, 12, 0, 1), OUTSIDE);
        due("copy: OUTSIDE and INDEX", x.copy(-1, 0, 0, 0, -1), OUTSIDE);
        due("copy: NOTHING and INDEX", x.copy(3, 0, 0, 0, -1), NOTHING);
        due("copy: INDEX and NOTHING", x.copy(0, 9, 3, 0, 1), NOTHING);
        due("copy: CAST and INDEX", x.copy(0, 0, 1, 0, -1), CAST);
        due("copy: CAST and INDEX", x.copy(1, 2, 0, 0, 1), CAST);
        due("copy: CAST and INDEX", x.copy(0, 0, 1, 2, 1), CAST);
        benchIsAsItWas(x);
    }

    // ---- promise 7

    @Says("7: A place of a ROW, taken as of a KIND 0 .. 3, as a number")
    private static void lookLeastAndLargest() {
        long[] least = {-128, -32768, LOW, -FULL};
        long[] largest = {127, 32767, HIGH, FULL};
        for (int kind = BYTES; kind <= LONGS; kind++) {
            LongSums x = new LongSums();
            x.row(11, kind, 40);
            x.put(11, 0, least[kind], 0);
            x.put(11, 39, largest[kind], 0);
            due("look at the least", x.look(11, kind, 0), least[kind]);
            due("look at the largest", x.look(11, kind, 39), largest[kind]);
            due("look between", x.look(11, kind, 20), 0);
        }
    }

    @Says("7: (Of KIND 3 any answer may be a number.)")
    private static void lookAtNumbersLikeFindings() {
        LongSums x = withRow(LONGS, -1.0, -3.0, -11.0, -12.0, -13.0, -14.0);
        long[] numbers = {-1, -3, -11, -12, -13, -14};
        for (int place = 0; place < 6; place++) {
            due("look", x.look(0, LONGS, place), numbers[place]);
        }
    }

    @Says("7: OUTSIDE: row, kind")
    private static void lookOutside() {
        LongSums x = bench();
        for (int row : NOT_ROWS) {
            due("look(" + row + ", 3, 0)", x.look(row, LONGS, 0), OUTSIDE);
        }
        for (int kind : new int[] {-1, 4, 5, 6, LOW, HIGH}) {
            due("look(1, " + kind + ", 0)", x.look(1, kind, 0), OUTSIDE);
            due("look(0, " + kind + ", 0)", x.look(0, kind, 0), OUTSIDE);
        }
        benchIsAsItWas(x);
    }

    @Says("7: NOTHING")
    private static void lookNothing() {
        LongSums x = bench();
        due("look(3, 3, 0)", x.look(3, LONGS, 0), NOTHING);
        due("look(11, 0, 0)", x.look(11, BYTES, 0), NOTHING);
        benchIsAsItWas(x);
    }

    @Says("7: CAST")
    private static void lookCast() {
        for (int kind = BYTES; kind <= DOUBLES; kind++) {
            LongSums x = withRow(kind, 5.0);
            for (int as = BYTES; as <= LONGS; as++) {
                due("look at KIND " + kind + " as " + as, x.look(0, as, 0), as == kind ? 5 : CAST);
            }
        }
    }

    @Says("7: INDEX")
    private static void lookIndex() {
        LongSums x = bench();
        for (int place : new int[] {-1, 2, 3, 39, 40, LOW, HIGH}) {
            due("look(1, 3, " + place + ")", x.look(1, LONGS, place), INDEX);
        }
        x.row(2, BYTES, 0);
        due("look in a row of no places", x.look(2, BYTES, 0), INDEX);
    }

    @Says("7: OUTSIDE: row, kind; NOTHING; CAST; INDEX (two together: the first)")
    private static void lookInOrder() {
        LongSums x = bench();
        due("look: row and INDEX", x.look(12, LONGS, -1), OUTSIDE);
        due("look: kind and NOTHING", x.look(3, 4, 0), OUTSIDE);
        due("look: kind and CAST", x.look(0, 4, 0), OUTSIDE);
        due("look: kind and INDEX", x.look(1, -1, 2), OUTSIDE);
        due("look: NOTHING and INDEX", x.look(3, LONGS, -1), NOTHING);
        due("look: CAST and INDEX", x.look(1, INTS, 2), CAST);
        due("look: CAST and INDEX", x.look(0, LONGS, -1), CAST);
        benchIsAsItWas(x);
    }

    // ---- promise 8

    @Says("8: A place of a row of doubles, or of floats, as a double")
    private static void seeFirstAndLast() {
        for (int kind = FLOATS; kind <= DOUBLES; kind++) {
            LongSums x = new LongSums();
            x.row(11, kind, 40);
            x.put(11, 0, -7, -3);
            x.put(11, 39, 9, 60);
            dueDouble("see(11, 0)", x.see(11, 0), -0.875);
            dueDouble("see(11, 39)", x.see(11, 39), 0x9p60);
            dueDouble("see(11, 40)", x.see(11, 40), 0.0);
        }
    }

    @Says("8: 0.0 where there is none such")
    private static void seeNoneSuch() {
        LongSums x = withRow(DOUBLES, 3.0, 4.0);
        for (int row : NOT_ROWS) {
            dueDouble("see(" + row + ", 0)", x.see(row, 0), 0.0);
        }
        dueDouble("see of a MISSING row", x.see(1, 0), 0.0);
        for (int place : new int[] {-1, 2, 39, 40, LOW, HIGH}) {
            dueDouble("see(0, " + place + ")", x.see(0, place), 0.0);
        }
        for (int kind = BYTES; kind <= LONGS; kind++) {
            fill(x, 2, kind, 5.0);
            dueDouble("see of KIND " + kind, x.see(2, 0), 0.0);
        }
        x.row(3, FLOATS, 0);
        dueDouble("see in a row of no places", x.see(3, 0), 0.0);
        rowIs(x, 0, 3.0, 4.0);
    }

    @Says("8: or it is NO NUMBER")
    private static void seeNoNumber() {
        for (int kind = FLOATS; kind <= DOUBLES; kind++) {
            LongSums x = withRow(kind, 3.0, NO_NUMBER, ENDLESS, -ENDLESS);
            rowIs(x, 0, 3.0, 0.0, ENDLESS, -ENDLESS);
        }
    }

    // ---- promise 9

    private static void comparedWithNear(LongSums x, double number) {
        due("compare with less than " + number, x.compare(0, 0, Math.nextDown(number)), 3);
        due("compare with " + number, x.compare(0, 0, number), 2);
        due("compare with more than " + number, x.compare(0, 0, Math.nextUp(number)), 1);
        due("compare with ENDLESS above", x.compare(0, 0, ENDLESS), 1);
        due("compare with ENDLESS below", x.compare(0, 0, -ENDLESS), 3);
    }

    @Says("9: How a place of a row compares with a double: 1 it is less, 2 alike, 3 greater")
    private static void compareNear() {
        for (double number : new double[] {127.0, -128.0, 0.0, 1.0, -1.0}) {
            for (int kind = BYTES; kind <= DOUBLES; kind++) {
                comparedWithNear(withRow(kind, number), number);
            }
        }
        for (double number : new double[] {MOST_FLOAT, -MOST_FLOAT, LEAST_FLOAT, -LEAST_FLOAT}) {
            comparedWithNear(withRow(FLOATS, number), number);
        }
        for (double number : new double[] {MOST, -MOST, LEAST, -LEAST, 1.0 + 0x1p-52, 0x1p-1022}) {
            LongSums x = withRow(DOUBLES, number);
            due("compare with less than " + number, x.compare(0, 0, Math.nextDown(number)), 3);
            due("compare with " + number, x.compare(0, 0, number), 2);
            due("compare with more than " + number, x.compare(0, 0, Math.nextUp(number)), 1);
        }
    }

    @Says("9: 2 alike (0 and -0.0, whichever stands where)")
    private static void compareNoughts() {
        for (int kind = BYTES; kind <= DOUBLES; kind++) {
            LongSums x = withRow(kind, 0.0);
            due("compare with 0.0", x.compare(0, 0, 0.0), 2);
            due("compare with -0.0", x.compare(0, 0, -0.0), 2);
            due("compare with the least", x.compare(0, 0, LEAST), 1);
            due("compare with the least below 0", x.compare(0, 0, -LEAST), 3);
        }
        for (int kind = FLOATS; kind <= DOUBLES; kind++) {
            LongSums x = withRow(kind, -0.0);
            due("compare of -0.0 with 0.0", x.compare(0, 0, 0.0), 2);
            due("compare of -0.0 with -0.0", x.compare(0, 0, -0.0), 2);
            due("compare of -0.0 with the least", x.compare(0, 0, LEAST), 1);
            due("compare of -0.0 with the least below 0", x.compare(0, 0, -LEAST), 3);
        }
    }

    @Says("9: How a place of a row compares with a double (ENDLESS ones)")
    private static void compareEndless() {
        for (int kind = FLOATS; kind <= DOUBLES; kind++) {
            LongSums x = withRow(kind, ENDLESS, -ENDLESS);
            due("compare", x.compare(0, 0, ENDLESS), 2);
            due("compare", x.compare(0, 0, MOST), 3);
            due("compare", x.compare(0, 0, -ENDLESS), 3);
            due("compare", x.compare(0, 1, -ENDLESS), 2);
            due("compare", x.compare(0, 1, -MOST), 1);
            due("compare", x.compare(0, 1, ENDLESS), 1);
        }
    }

    @Says("9: 0 none of these (NO NUMBER)")
    private static void compareNoNumber() {
        for (int kind = FLOATS; kind <= DOUBLES; kind++) {
            LongSums x = withRow(kind, NO_NUMBER, 0.0, ENDLESS);
            for (double with : new double[] {0.0, 1.0, -1.0, ENDLESS, -ENDLESS, NO_NUMBER}) {
                due("compare of NO NUMBER with " + with, x.compare(0, 0, with), 0);
            }
            due("compare of a number with NO NUMBER", x.compare(0, 1, NO_NUMBER), 0);
            due("compare of ENDLESS with NO NUMBER", x.compare(0, 2, NO_NUMBER), 0);
        }
        LongSums x = withRow(BYTES, 0.0);
        due("compare of a byte with NO NUMBER", x.compare(0, 0, NO_NUMBER), 0);
    }

    @Says("9: Longs are compared as doubles (rounded to the nearest)")
    private static void compareLongs() {
        LongSums x = new LongSums();
        x.row(0, LONGS, 2);
        x.put(0, 0, FULL, 0);
        x.put(0, 1, -FULL, 0);
        due("compare of 2^53 - 1 with it", x.compare(0, 0, 0x1p53 - 1.0), 2);
        due("compare of 2^53 - 1 with 2^53", x.compare(0, 0, 0x1p53), 1);
        due("compare of 2^53 - 1 with 2^53 - 2", x.compare(0, 0, 0x1p53 - 2.0), 3);
        due("compare of 1 - 2^53 with it", x.compare(0, 1, 1.0 - 0x1p53), 2);
        due("compare of 1 - 2^53 with -2^53", x.compare(0, 1, -0x1p53), 3);
        due("compare of 2^53 - 1 with a half more", x.compare(0, 1, 0.5), 1);
    }

    @Says("9: OUTSIDE: row")
    private static void compareOutside() {
        LongSums x = bench();
        for (int row : NOT_ROWS) {
            due("compare(" + row + ", 0, 0.0)", x.compare(row, 0, 0.0), OUTSIDE);
            due("compare(" + row + ", -1, 0.0)", x.compare(row, -1, 0.0), OUTSIDE);
        }
        benchIsAsItWas(x);
    }

    @Says("9: NOTHING")
    private static void compareNothing() {
        LongSums x = bench();
        due("compare(3, 0, 0.0)", x.compare(3, 0, 0.0), NOTHING);
        due("compare(11, 40, 0.0): and INDEX", x.compare(11, 40, 0.0), NOTHING);
        benchIsAsItWas(x);
    }

    @Says("9: INDEX")
    private static void compareIndex() {
        LongSums x = bench();
        for (int place : new int[] {-1, 3, 39, 40, LOW, HIGH}) {
            due("compare(0, " + place + ", 0.0)", x.compare(0, place, 0.0), INDEX);
        }
        due("compare in the last place", x.compare(0, 2, 5.0), 2);
        due("compare(1, 2, 0.0)", x.compare(1, 2, 0.0), INDEX);
        due("compare in a row of no places", x.compare(2, 0, 0.0), INDEX);
        due("compare with NO NUMBER", x.compare(0, 3, NO_NUMBER), INDEX);
        benchIsAsItWas(x);
    }

    // ---- promise 10

    @Says("10: A KEEPER is new, of a KIND: 0 (the first and the last of both)")
    private static void keeperFirstAndLast() {
        LongSums x = withRow(DOUBLES, 3.0);
        for (int keeper : new int[] {0, 5}) {
            for (int kind = SUMS; kind <= SQUARES; kind++) {
                due("keeper(" + keeper + ", " + kind + ")", x.keeper(keeper, kind), 0);
                due("sort", x.sort(keeper), 0);
                due("pair over no place", x.pair(keeper, 0, 0, 0, 0), kind == SUMS ? CAST : 0);
                due("add over no place", x.add(keeper, 0, 0, 0), kind == PAIRS ? CAST : 0);
            }
        }
        due("count(1)", x.count(1), 2);
    }

    @Says("10: A KEEPER is new (in the place of another one, be it of the same KIND)")
    private static void keeperTakesAnothersPlace() {
        for (int kind = SUMS; kind <= SQUARES; kind++) {
            LongSums x = bench();
            set(x, 0, 0, ENDLESS);
            set(x, 0, 1, NO_NUMBER);
            x.add(2, 0, 0, 3);
            due("keeper(2, " + kind + ")", x.keeper(2, kind), 0);
            due("sort", x.sort(2), 0);
            due("sign", x.sign(2), 0);
            seenIs(x, 2, 0, 0, 0);
            due("count(1)", x.count(1), 3);
            due("undo", x.undo(), 2);
            due("sort", x.sort(2), 3);
            seenIs(x, 2, 1, 1, 0);
            due("bit", x.bit(2, 1), 1);
        }
    }

    @Says("10: OUTSIDE")
    private static void keeperOutside() {
        LongSums x = bench();
        for (int keeper : NOT_KEEPERS) {
            due("keeper(" + keeper + ", 0)", x.keeper(keeper, SUMS), OUTSIDE);
        }
        for (int kind : new int[] {-1, 3, LOW, HIGH}) {
            due("keeper(0, " + kind + ")", x.keeper(0, kind), OUTSIDE);
            due("keeper(5, " + kind + ")", x.keeper(5, kind), OUTSIDE);
        }
        due("keeper(6, 3)", x.keeper(6, 3), OUTSIDE);
        benchIsAsItWas(x);
    }

    // ---- promise 11

    @Says("11: So many places of a ROW from one on are ADDED (or TAKEN: many below 0, so many as its size): how many")
    private static void addAndTake() {
        LongSums x = withRow(DOUBLES, 1.0, 10.0, 100.0, 1000.0);
        x.keeper(5, SUMS);
        double[][] wants = {{0, 0, 0, 0, 0}, {1, 10, 100, 1000}, {11, 110, 1100}, {111, 1110}, {1111}};
        for (int many = 0; many <= 4; many++) {
            for (int place = 0; place < wants[many].length; place++) {
                x.clear(5);
                due("add(5, 0, " + place + ", " + many + ")", x.add(5, 0, place, many), many);
                dueDouble("tell", x.tell(5, 0, false), wants[many][place]);
                due("add(5, 0, " + place + ", " + -many + ")", x.add(5, 0, place, -many), many);
                due("sign", x.sign(5), 0);
                due("add(5, 0, " + place + ", " + -many + ")", x.add(5, 0, place, -many), many);
                dueDouble("tell", x.tell(5, 0, false), 0.0 - wants[many][place]);
            }
        }
    }

    @Says("11: (many's size) (40 places: the most)")
    private static void addOfAll() {
        for (int kind = BYTES; kind <= DOUBLES; kind++) {
            LongSums x = new LongSums();
            x.row(11, kind, 40);
            for (int place = 0; place < 40; place++) {
                x.put(11, place, place + 1, 0);
            }
            x.keeper(0, SUMS);
            x.keeper(5, SQUARES);
            due("add(0, 11, 0, 40)", x.add(0, 11, 0, 40), 40);
            dueDouble("tell", x.tell(0, 0, false), 820.0);
            due("add(0, 11, 0, -40)", x.add(0, 11, 0, -40), 40);
            due("sign", x.sign(0), 0);
            due("add(0, 11, 0, -40)", x.add(0, 11, 0, -40), 40);
            dueDouble("tell", x.tell(0, 0, false), -820.0);
            due("add(5, 11, 0, 40)", x.add(5, 11, 0, 40), 40);
            dueDouble("tell", x.tell(5, 0, false), 22140.0);
            due("add(5, 11, 0, -40)", x.add(5, 11, 0, -40), 40);
            due("sign", x.sign(5), 0);
        }
    }

    @Says("11: So many places (none: nothing is ADDED, but it is a change)")
    private static void addOfNone() {
        LongSums x = bench();
        due("add(0, 0, 0, 0)", x.add(0, 0, 0, 0), 0);
        due("add(0, 0, 3, 0)", x.add(0, 0, 3, 0), 0);
        due("add(0, 2, 0, 0)", x.add(0, 2, 0, 0), 0);
        due("count(2)", x.count(2), 9);
        due("count(4)", x.count(4), 8);
        due("undo", x.undo(), 0);
        due("undo", x.undo(), 0);
        due("undo", x.undo(), 0);
        benchIsAsItWas(x);
    }

    @Says("11: of SQUARES the PRODUCTS of each with itself, else the numbers")
    private static void addOfSquares() {
        LongSums x = withRow(DOUBLES, -3.0, 0.5);
        x.keeper(0, SQUARES);
        x.keeper(1, SUMS);
        x.add(0, 0, 0, 2);
        x.add(1, 0, 0, 2);
        dueDouble("tell", x.tell(0, 0, false), 9.25);
        dueDouble("tell", x.tell(1, 0, false), -2.5);
        x.add(0, 0, 0, -1);
        dueDouble("tell", x.tell(0, 0, false), 0.25);
        fill(x, 0, DOUBLES, ENDLESS, -ENDLESS, NO_NUMBER, -0.0, 0.0);
        x.add(0, 0, 0, 5);
        seenIs(x, 0, 1, 2, 0);
        x.add(0, 0, 0, -5);
        seenIs(x, 0, 2, 2, 2);
        due("sign", x.sign(0), 1);
        due("high", x.high(0), -2);
    }

    @Says("11: of SQUARES the PRODUCTS of each with itself (the least and the greatest)")
    private static void addOfLeastAndGreatestSquares() {
        LongSums x = withRow(DOUBLES, LEAST, MOST, -LEAST, -MOST);
        x.keeper(0, SQUARES);
        x.add(0, 0, 0, 1);
        due("high", x.high(0), -2148);
        x.add(0, 0, 2, 1);
        due("high", x.high(0), -2147);
        x.clear(0);
        x.add(0, 0, 1, 1);
        due("high", x.high(0), 2047);
        due("the lowest bit", x.bit(0, 1942), 1);
        x.add(0, 0, 3, 1);
        due("high", x.high(0), 2048);
        x.add(0, 0, 0, -4);
        due("sign", x.sign(0), 2);
        due("high", x.high(0), -2147);
    }

    @Says("11: OUTSIDE: keeper, row")
    private static void addOutside() {
        LongSums x = bench();
        for (int keeper : NOT_KEEPERS) {
            due("add(" + keeper + ", 0, 0, 1)", x.add(keeper, 0, 0, 1), OUTSIDE);
        }
        for (int row : NOT_ROWS) {
            due("add(0, " + row + ", 0, 1)", x.add(0, row, 0, 1), OUTSIDE);
        }
        benchIsAsItWas(x);
    }

    @Says("11: OUTSIDE: many (-40 .. 40)")
    private static void addOutsideMany() {
        LongSums x = bench();
        x.row(3, DOUBLES, 40);
        for (int many : new int[] {41, -41, LOW, HIGH, LOW + 1}) {
            due("add(0, 3, 0, " + many + ")", x.add(0, 3, 0, many), OUTSIDE);
        }
        x.lose(3);
        benchIsAsItWas(x);
    }

    @Says("11: NOTHING: keeper; NOTHING: row")
    private static void addNothing() {
        LongSums x = bench();
        due("add(3, 0, 0, 1)", x.add(3, 0, 0, 1), NOTHING);
        due("add(5, 0, 0, 0)", x.add(5, 0, 0, 0), NOTHING);
        due("add(0, 3, 0, 1)", x.add(0, 3, 0, 1), NOTHING);
        due("add(0, 11, 0, 0)", x.add(0, 11, 0, 0), NOTHING);
        due("add(3, 3, 0, 1)", x.add(3, 3, 0, 1), NOTHING);
        benchIsAsItWas(x);
    }

    @Says("11: CAST: the keeper is of PAIRS, but no SQUARES")
    private static void addCast() {
        LongSums x = bench();
        due("add(1, 0, 0, 1)", x.add(1, 0, 0, 1), CAST);
        due("add(1, 0, 0, 0)", x.add(1, 0, 0, 0), CAST);
        due("add(1, 0, 0, -3)", x.add(1, 0, 0, -3), CAST);
        benchIsAsItWas(x);
        x = bench();
        due("add(2, 0, 0, 1)", x.add(2, 0, 0, 1), 1);
        due("add(0, 0, 0, 1)", x.add(0, 0, 0, 1), 1);
    }

    @Says("11: INDEX: place is not 0 .. how many places the ROW has less many's size")
    private static void addIndex() {
        LongSums x = bench();
        for (int many = 0; many <= 3; many++) {
            for (int sign = -1; sign <= 1; sign += 2) {
                for (int place : new int[] {-1, 4 - many, 5 - many, 40, LOW, HIGH}) {
                    due("add(0, 0, " + place + ", " + sign * many + ")", x.add(0, 0, place, sign * many), INDEX);
                    due("add(2, 0, " + place + ", " + sign * many + ")", x.add(2, 0, place, sign * many), INDEX);
                }
            }
        }
        due("add of an empty row's first place", x.add(0, 2, 0, 1), INDEX);
        due("add of no place after an empty row", x.add(0, 2, 1, 0), INDEX);
        benchIsAsItWas(x);
    }

    @Says("11: (so always below)")
    private static void addIndexAlways() {
        LongSums x = bench();
        for (int place = -2; place <= 4; place++) {
            due("add(0, 0, " + place + ", 4)", x.add(0, 0, place, 4), INDEX);
            due("add(0, 0, " + place + ", -4)", x.add(0, 0, place, -4), INDEX);
            due("add(0, 0, " + place + ", 40)", x.add(0, 0, place, 40), INDEX);
            due("add(0, 0, " + place + ", -40)", x.add(0, 0, place, -40), INDEX);
        }
        due("add(0, 0, -1, 4)", x.add(0, 0, -1, 4), INDEX);
        due("add(0, 0, -37, 40)", x.add(0, 0, -37, 40), INDEX);
        benchIsAsItWas(x);
    }

    @Says("11: OUTSIDE: ..; NOTHING: keeper; NOTHING: row; CAST: ..; INDEX: .. (two together: the first)")
    private static void addInOrder() {
        LongSums x = bench();
        due("add: many and NOTHING: keeper", x.add(3, 0, 0, 41), OUTSIDE);
        due("add: many and NOTHING: row", x.add(0, 3, 0, -41), OUTSIDE);
        due("add: row and NOTHING: keeper", x.add(3, 12, 0, 1), OUTSIDE);
        due("add: keeper and NOTHING: row", x.add(6, 3, 0, 1), OUTSIDE);
        due("add: row and CAST", x.add(1, -1, 0, 1), OUTSIDE);
        due("add: many and CAST", x.add(1, 0, 0, 41), OUTSIDE);
        due("add: many and INDEX", x.add(0, 0, -1, -41), OUTSIDE);
        due("add: NOTHING: keeper and INDEX", x.add(3, 0, 3, 1), NOTHING);
        due("add: NOTHING: row and CAST", x.add(1, 3, 0, 1), NOTHING);
        due("add: NOTHING: row and INDEX", x.add(0, 3, -1, 1), NOTHING);
        due("add: CAST and INDEX", x.add(1, 0, 3, 1), CAST);
        due("add: CAST and INDEX", x.add(1, 0, -1, 0), CAST);
        benchIsAsItWas(x);
    }

    // ---- promise 12

    @Says("12: the PRODUCTS of places of two ROWS, from one place on, one by one, to PAIRS (SQUARES, too): how many")
    private static void pairAndTake() {
        LongSums x = withRow(DOUBLES, 2.0, 3.0, 5.0);
        fill(x, 11, LONGS, 1.0, 10.0, 100.0);
        for (int kind = PAIRS; kind <= SQUARES; kind++) {
            x.keeper(5, kind);
            double[][] wants = {{0, 0, 0, 0}, {2, 30, 500}, {32, 530}, {532}};
            for (int many = 0; many <= 3; many++) {
                for (int place = 0; place < wants[many].length; place++) {
                    x.clear(5);
                    due("pair", x.pair(5, 0, 11, place, many), many);
                    dueDouble("tell", x.tell(5, 0, false), wants[many][place]);
                    due("pair", x.pair(5, 11, 0, place, -many), many);
                    due("sign", x.sign(5), 0);
                    due("pair", x.pair(5, 11, 0, place, -many), many);
                    dueDouble("tell", x.tell(5, 0, false), 0.0 - wants[many][place]);
                }
            }
        }
    }

    @Says("12: PRODUCTS of places of two ROWS (of each two KINDS, all the 40 places)")
    private static void pairOfAll() {
        for (int one = BYTES; one <= DOUBLES; one++) {
            for (int other = BYTES; other <= DOUBLES; other++) {
                LongSums x = new LongSums();
                x.row(0, one, 40);
                x.row(11, other, 40);
                for (int place = 0; place < 40; place++) {
                    x.put(0, place, place + 1, 0);
                    x.put(11, place, -place - 1, 0);
                }
                x.keeper(0, PAIRS);
                due("pair", x.pair(0, 0, 11, 0, 40), 40);
                dueDouble("tell", x.tell(0, 0, false), -22140.0);
                due("pair", x.pair(0, 0, 11, 0, -40), 40);
                due("sign", x.sign(0), 0);
            }
        }
    }

    @Says("12: PRODUCTS of places of two ROWS (the same one; none)")
    private static void pairOfOneRowAndOfNone() {
        LongSums x = withRow(DOUBLES, -3.0, 4.0);
        fill(x, 1, FLOATS, 7.0);
        x.row(2, BYTES, 0);
        x.keeper(0, PAIRS);
        due("pair", x.pair(0, 0, 0, 0, 2), 2);
        dueDouble("tell", x.tell(0, 0, false), 25.0);
        due("pair of none", x.pair(0, 0, 1, 1, 0), 0);
        due("pair of none", x.pair(0, 0, 2, 0, 0), 0);
        due("pair of none", x.pair(0, 2, 2, 0, 0), 0);
        dueDouble("tell", x.tell(0, 0, false), 25.0);
        due("count(2)", x.count(2), 5);
        due("count(4)", x.count(4), 2);
    }

    @Says("12: OUTSIDE: keeper, rows, many")
    private static void pairOutside() {
        LongSums x = bench();
        for (int keeper : NOT_KEEPERS) {
            due("pair(" + keeper + ", 0, 0, 0, 1)", x.pair(keeper, 0, 0, 0, 1), OUTSIDE);
        }
        for (int row : NOT_ROWS) {
            due("pair(1, " + row + ", 0, 0, 1)", x.pair(1, row, 0, 0, 1), OUTSIDE);
            due("pair(1, 0, " + row + ", 0, 1)", x.pair(1, 0, row, 0, 1), OUTSIDE);
        }
        for (int many : new int[] {41, -41, LOW, HIGH, LOW + 1}) {
            due("pair(1, 0, 0, 0, " + many + ")", x.pair(1, 0, 0, 0, many), OUTSIDE);
        }
        benchIsAsItWas(x);
    }

    @Says("12: NOTHING: keeper; NOTHING: rows")
    private static void pairNothing() {
        LongSums x = bench();
        due("pair(3, 0, 0, 0, 1)", x.pair(3, 0, 0, 0, 1), NOTHING);
        due("pair(1, 3, 0, 0, 1)", x.pair(1, 3, 0, 0, 1), NOTHING);
        due("pair(1, 0, 3, 0, 1)", x.pair(1, 0, 3, 0, 1), NOTHING);
        due("pair(2, 11, 11, 0, 0)", x.pair(2, 11, 11, 0, 0), NOTHING);
        benchIsAsItWas(x);
    }

    @Says("12: CAST: it is of SUMS")
    private static void pairCast() {
        LongSums x = bench();
        due("pair(0, 0, 0, 0, 1)", x.pair(0, 0, 0, 0, 1), CAST);
        due("pair(0, 0, 1, 0, 0)", x.pair(0, 0, 1, 0, 0), CAST);
        benchIsAsItWas(x);
        x = bench();
        due("pair(1, 0, 1, 0, 2)", x.pair(1, 0, 1, 0, 2), 2);
        due("pair(2, 0, 1, 0, 2)", x.pair(2, 0, 1, 0, 2), 2);
    }

    @Says("12: INDEX: one has no such places")
    private static void pairIndex() {
        LongSums x = bench();
        for (int sign = -1; sign <= 1; sign += 2) {
            due("pair: the other has one less", x.pair(1, 0, 1, 0, 3 * sign), INDEX);
            due("pair: the first has one less", x.pair(1, 1, 0, 0, 3 * sign), INDEX);
            due("pair: the other ends before", x.pair(1, 0, 1, 2, sign), INDEX);
            due("pair: the first ends before", x.pair(1, 1, 0, 2, sign), INDEX);
            due("pair: the other ends before", x.pair(1, 0, 1, 1, 2 * sign), INDEX);
            due("pair: both end before", x.pair(1, 0, 0, 1, 3 * sign), INDEX);
            due("pair: before both", x.pair(1, 0, 1, -1, sign), INDEX);
            due("pair: the other is empty", x.pair(1, 0, 2, 0, sign), INDEX);
            due("pair: the first is empty", x.pair(1, 2, 0, 0, sign), INDEX);
            due("pair: 40", x.pair(1, 0, 0, 0, 40 * sign), INDEX);
            due("pair: far out", x.pair(1, 0, 0, HIGH, 40 * sign), INDEX);
            due("pair: far out", x.pair(1, 0, 0, LOW, 40 * sign), INDEX);
        }
        due("pair of none, beyond the other's end", x.pair(1, 0, 1, 3, 0), INDEX);
        due("pair of none, beyond the first one's end", x.pair(1, 1, 0, 3, 0), INDEX);
        due("pair of none, before both", x.pair(1, 1, 0, -1, 0), INDEX);
        benchIsAsItWas(x);
    }

    @Says("12: OUTSIDE: keeper, rows, many; NOTHING: keeper; NOTHING: rows; CAST; INDEX (two together: the first)")
    private static void pairInOrder() {
        LongSums x = bench();
        due("pair: row and NOTHING: keeper", x.pair(3, 12, 0, 0, 1), OUTSIDE);
        due("pair: other and NOTHING: keeper", x.pair(3, 0, -1, 0, 1), OUTSIDE);
        due("pair: other and NOTHING: row", x.pair(1, 3, 12, 0, 1), OUTSIDE);
        due("pair: many and NOTHING: keeper", x.pair(3, 0, 0, 0, 41), OUTSIDE);
        due("pair: many and CAST", x.pair(0, 0, 0, 0, -41), OUTSIDE);
        due("pair: many and INDEX", x.pair(1, 0, 0, -1, 41), OUTSIDE);
        due("pair: NOTHING: row and CAST", x.pair(0, 3, 0, 0, 1), NOTHING);
        due("pair: NOTHING: other and CAST", x.pair(0, 0, 3, 0, 1), NOTHING);
        due("pair: NOTHING: keeper and INDEX", x.pair(3, 0, 0, -1, 1), NOTHING);
        due("pair: NOTHING: row and INDEX", x.pair(1, 3, 0, 3, 1), NOTHING);
        due("pair: NOTHING: other and INDEX", x.pair(1, 0, 3, 3, 1), NOTHING);
        due("pair: CAST and INDEX", x.pair(0, 0, 1, 2, 1), CAST);
        benchIsAsItWas(x);
    }

    // ---- promise 13

    @Says("13: What another KEEPER has comes to a KEEPER (sum and what was SEEN; the other one stays ..): 0")
    private static void mergeOther() {
        LongSums x = sums(3.0, ENDLESS, NO_NUMBER, NO_NUMBER, -4.0);
        x.clear(1);
        x.add(1, 0, 0, -2);
        due("merge", x.merge(1, 0), 0);
        seenIs(x, 1, 2, 1, 1);
        due("sign", x.sign(1), 2);
        due("high", x.high(1), 2);
        seenIs(x, 0, 2, 1, 0);
        due("sign", x.sign(0), 2);
        due("high", x.high(0), 0);
        due("count(4)", x.count(4), 12);
    }

    @Says("13: it may be the same one")
    private static void mergeSame() {
        LongSums x = sums(3.0, ENDLESS, -ENDLESS, -ENDLESS, NO_NUMBER, NO_NUMBER, NO_NUMBER);
        due("merge", x.merge(1, 1), 0);
        seenIs(x, 1, 6, 4, 2);
        due("sign", x.sign(1), 2);
        due("bit", x.bit(1, 2), 1);
        due("bit", x.bit(1, 1), 1);
        due("bit", x.bit(1, 0), 0);
        due("undo", x.undo(), 1);
        seenIs(x, 1, 3, 2, 1);
        due("high", x.high(1), 1);
    }

    @Says("13: What another KEEPER has comes to a KEEPER (nothing; what makes it nothing)")
    private static void mergeNothing() {
        LongSums x = sums(MOST, LEAST);
        x.keeper(5, SUMS);
        due("merge of a new one", x.merge(0, 5), 0);
        due("high", x.high(0), 1023);
        due("bit", x.bit(0, -1074), 1);
        due("merge with its like below 0", x.merge(0, 1), 0);
        due("sign", x.sign(0), 0);
        due("high", x.high(0), -10000);
        due("merge to a new one", x.merge(5, 1), 0);
        due("order", x.order(5, 1), 1);
    }

    @Says("13: OUTSIDE")
    private static void mergeOutside() {
        LongSums x = bench();
        for (int keeper : NOT_KEEPERS) {
            due("merge(" + keeper + ", 0)", x.merge(keeper, 0), OUTSIDE);
            due("merge(0, " + keeper + ")", x.merge(0, keeper), OUTSIDE);
        }
        benchIsAsItWas(x);
    }

    @Says("13: NOTHING")
    private static void mergeWithMissing() {
        LongSums x = bench();
        due("merge(0, 3)", x.merge(0, 3), NOTHING);
        due("merge(3, 0)", x.merge(3, 0), NOTHING);
        due("merge(5, 5)", x.merge(5, 5), NOTHING);
        benchIsAsItWas(x);
    }

    @Says("13: CAST: one is of SUMS, the other one is not")
    private static void mergeCast() {
        for (int one = SUMS; one <= SQUARES; one++) {
            for (int other = SUMS; other <= SQUARES; other++) {
                LongSums x = bench();
                boolean fits = (one == SUMS) == (other == SUMS);
                due("merge(" + one + ", " + other + ")", x.merge(one, other), fits ? 0 : CAST);
                if (!fits) {
                    benchIsAsItWas(x);
                }
            }
        }
    }

    @Says("13: What another KEEPER has comes to a KEEPER (which stays of its KIND)")
    private static void mergeKeepsKinds() {
        LongSums x = bench();
        x.merge(1, 2);
        x.merge(2, 1);
        dueDouble("tell(1, 0, false)", x.tell(1, 0, false), 75.0);
        dueDouble("tell(2, 0, false)", x.tell(2, 0, false), 100.0);
        due("add to PAIRS", x.add(1, 0, 0, 1), CAST);
        due("add to SQUARES", x.add(2, 0, 0, 1), 1);
        dueDouble("tell(2, 0, false)", x.tell(2, 0, false), 109.0);
    }

    @Says("13: OUTSIDE; NOTHING; CAST (two together: the first)")
    private static void mergeInOrder() {
        LongSums x = bench();
        due("merge: NOTHING and OUTSIDE", x.merge(3, 6), OUTSIDE);
        due("merge: OUTSIDE and NOTHING", x.merge(-1, 3), OUTSIDE);
        due("merge: a MISSING one, and PAIRS", x.merge(3, 1), NOTHING);
        due("merge: PAIRS, and a MISSING one", x.merge(1, 3), NOTHING);
        x.keeper(3, SQUARES);
        x.undo();
        due("merge: SUMS, and one that was of SQUARES", x.merge(0, 3), NOTHING);
        benchIsAsItWas(x);
    }

    // ---- promise 14

    @Says("14: A KEEPER is as a new one of its KIND: 0")
    private static void clearEachKind() {
        for (int kind = SUMS; kind <= SQUARES; kind++) {
            LongSums x = withRow(DOUBLES, 3.0, ENDLESS, -ENDLESS, NO_NUMBER);
            x.keeper(5, kind);
            due("fill", kind == PAIRS ? x.pair(5, 0, 0, 0, 4) : x.add(5, 0, 0, 4), 4);
            due("clear(5)", x.clear(5), 0);
            seenIs(x, 5, 0, 0, 0);
            due("sort", x.sort(5), 0);
            due("sign", x.sign(5), 0);
            due("pair", x.pair(5, 0, 0, 0, 1), kind == SUMS ? CAST : 1);
            due("add", x.add(5, 0, 0, 1), kind == PAIRS ? CAST : 1);
            dueDouble("tell", x.tell(5, 0, false), new double[] {3.0, 9.0, 18.0}[kind]);
        }
    }

    @Says("14: OUTSIDE; NOTHING")
    private static void clearRefused() {
        LongSums x = bench();
        for (int keeper : NOT_KEEPERS) {
            due("clear(" + keeper + ")", x.clear(keeper), OUTSIDE);
        }
        for (int keeper = 3; keeper <= 5; keeper++) {
            due("clear(" + keeper + ")", x.clear(keeper), NOTHING);
        }
        benchIsAsItWas(x);
    }

    // ---- promise 15

    @Says("15: A KEEPER of SUMS is as a new one, and has ADDED places of a ROW, and TAKEN their plain() sum: many")
    private static void errorOfPlaces() {
        LongSums x = withRow(DOUBLES, 1.0, 0x1p-53, 0x1p-53, -1.0);
        x.keeper(5, SUMS);
        x.add(5, 0, 0, 4);
        due("error of all", x.error(5, 0, 0, 4), 4);
        dueDouble("tell", x.tell(5, 0, false), 0x1p-52);
        due("error of the first", x.error(5, 0, 0, 2), 2);
        dueDouble("tell", x.tell(5, 0, false), 0x1p-53);
        due("error of the last", x.error(5, 0, 3, 1), 1);
        due("sign", x.sign(5), 0);
        due("error of what is plainly told", x.error(5, 0, 1, 3), 3);
        due("sign", x.sign(5), 0);
    }

    @Says("15: so many from one on (none, and all the 40)")
    private static void errorOfNoneAndAll() {
        LongSums x = new LongSums();
        x.row(11, DOUBLES, 40);
        x.row(0, BYTES, 0);
        for (int place = 0; place < 40; place++) {
            x.put(11, place, 1, place == 0 ? 0 : -53);
        }
        x.keeper(0, SUMS);
        due("error of 40", x.error(0, 11, 0, 40), 40);
        dueDouble("tell", x.tell(0, 0, false), 39 * 0x1p-53);
        due("count(4)", x.count(4), 40);
        due("error of none", x.error(0, 11, 40, 0), 0);
        due("sign", x.sign(0), 0);
        due("error of none of none", x.error(0, 0, 0, 0), 0);
        due("count(4)", x.count(4), 40);
        due("count(2)", x.count(2), 4);
    }

    @Says("15: TAKEN their plain() sum (as that answers): one that is ENDLESS, though its places are not")
    private static void errorBeyond() {
        LongSums x = withRow(DOUBLES, MOST, MOST, -MOST, -MOST);
        x.keeper(0, SUMS);
        x.error(0, 0, 0, 2);
        seenIs(x, 0, 0, 0, 1);
        due("high", x.high(0), 1024);
        due("sign", x.sign(0), 1);
        x.error(0, 0, 2, 2);
        seenIs(x, 0, 0, 1, 0);
        due("sign", x.sign(0), 2);
        x.error(0, 0, 1, 2);
        due("sort", x.sort(0), 0);
        due("sign", x.sign(0), 0);
        x.error(0, 0, 0, 4);
        seenIs(x, 0, 0, 0, 1);
        due("sign", x.sign(0), 0);
        due("count(4)", x.count(4), 10);
    }

    @Says("15: TAKEN their plain() sum (as that answers): one that is ENDLESS as a place is")
    private static void errorOfEndless() {
        LongSums x = withRow(DOUBLES, ENDLESS, 3.0, -ENDLESS);
        x.keeper(0, SUMS);
        x.error(0, 0, 0, 1);
        seenIs(x, 0, 0, 1, 1);
        x.error(0, 0, 1, 2);
        seenIs(x, 0, 0, 1, 1);
        due("high", x.high(0), 1);
    }

    @Says("15: TAKEN their plain() sum (as that answers): 0.0 where it is NO NUMBER")
    private static void errorOfNoNumber() {
        LongSums x = withRow(DOUBLES, ENDLESS, 3.0, -ENDLESS, NO_NUMBER, 5.0);
        x.keeper(0, SUMS);
        x.error(0, 0, 0, 3);
        seenIs(x, 0, 0, 1, 1);
        due("sign", x.sign(0), 1);
        due("high", x.high(0), 1);
        x.error(0, 0, 3, 2);
        seenIs(x, 0, 1, 0, 0);
        due("high", x.high(0), 2);
        x.error(0, 0, 0, 5);
        seenIs(x, 0, 1, 1, 1);
        due("high", x.high(0), 3);
    }

    @Says("15: TAKEN their plain() sum (the least and the greatest, above and below 0)")
    private static void errorOfLeastAndGreatest() {
        for (double number : new double[] {MOST, -MOST, LEAST, -LEAST, 0x1p-1022, -0x1p-1022, 1.0, 0x1p1023, 0.0, -0.0}) {
            LongSums x = withRow(DOUBLES, number);
            x.keeper(0, SUMS);
            due("error of " + number, x.error(0, 0, 0, 1), 1);
            due("sign", x.sign(0), 0);
            due("sort", x.sort(0), 0);
        }
        LongSums x = withRow(DOUBLES, MOST, 1.0);
        x.keeper(0, SUMS);
        x.error(0, 0, 0, 2);
        dueDouble("tell", x.tell(0, 0, false), 1.0);
        fill(x, 0, DOUBLES, -MOST, -LEAST);
        x.error(0, 0, 0, 2);
        dueDouble("tell", x.tell(0, 0, false), -LEAST);
    }

    @Says("15: places of a ROW (of each KIND)")
    private static void errorOfEachKind() {
        for (int kind = BYTES; kind <= DOUBLES; kind++) {
            LongSums x = withRow(kind, 100.0, 27.0, -128.0);
            x.keeper(0, SUMS);
            due("error of KIND " + kind, x.error(0, 0, 0, 3), 3);
            due("sign", x.sign(0), 0);
        }
        LongSums x = withRow(LONGS, FULL, FULL, 1.0);
        x.keeper(0, SUMS);
        x.error(0, 0, 0, 3);
        dueDouble("tell: plain() rounds 2^54 - 1 up", x.tell(0, 0, false), -1.0);
    }

    @Says("15: OUTSIDE: keeper, row, many (0 .. 40)")
    private static void errorOutside() {
        LongSums x = bench();
        for (int keeper : NOT_KEEPERS) {
            due("error(" + keeper + ", 0, 0, 1)", x.error(keeper, 0, 0, 1), OUTSIDE);
        }
        for (int row : NOT_ROWS) {
            due("error(0, " + row + ", 0, 1)", x.error(0, row, 0, 1), OUTSIDE);
        }
        for (int many : new int[] {-1, 41, LOW, HIGH}) {
            due("error(0, 0, 0, " + many + ")", x.error(0, 0, 0, many), OUTSIDE);
        }
        benchIsAsItWas(x);
    }

    @Says("15: NOTHING: keeper; NOTHING: row")
    private static void errorNothing() {
        LongSums x = bench();
        due("error(3, 0, 0, 1)", x.error(3, 0, 0, 1), NOTHING);
        due("error(0, 3, 0, 1)", x.error(0, 3, 0, 1), NOTHING);
        due("error(0, 11, 0, 0)", x.error(0, 11, 0, 0), NOTHING);
        benchIsAsItWas(x);
    }

    @Says("15: CAST: it is not of SUMS")
    private static void errorCast() {
        LongSums x = bench();
        due("error(1, 0, 0, 1)", x.error(1, 0, 0, 1), CAST);
        due("error(2, 0, 0, 1)", x.error(2, 0, 0, 1), CAST);
        due("error(1, 0, 0, 0)", x.error(1, 0, 0, 0), CAST);
        benchIsAsItWas(x);
    }

    @Says("15: INDEX")
    private static void errorIndex() {
        LongSums x = bench();
        for (int many = 0; many <= 4; many++) {
            for (int place : new int[] {-1, 4 - many, 40, LOW, HIGH}) {
                due("error(0, 0, " + place + ", " + many + ")", x.error(0, 0, place, many), INDEX);
            }
        }
        due("error(0, 0, 0, 40)", x.error(0, 0, 0, 40), INDEX);
        due("error(0, 2, 0, 1)", x.error(0, 2, 0, 1), INDEX);
        due("error(0, 2, 1, 0)", x.error(0, 2, 1, 0), INDEX);
        benchIsAsItWas(x);
    }

    @Says("15: OUTSIDE: ..; NOTHING: keeper; NOTHING: row; CAST: ..; INDEX (two together: the first)")
    private static void errorInOrder() {
        LongSums x = bench();
        due("error: many and NOTHING: keeper", x.error(3, 0, 0, -1), OUTSIDE);
        due("error: many and NOTHING: row", x.error(0, 3, 0, 41), OUTSIDE);
        due("error: row and NOTHING: keeper", x.error(3, 12, 0, 1), OUTSIDE);
        due("error: many and CAST", x.error(1, 0, 0, -1), OUTSIDE);
        due("error: many and INDEX", x.error(0, 0, -1, -1), OUTSIDE);
        due("error: NOTHING: keeper and INDEX", x.error(3, 0, 3, 1), NOTHING);
        due("error: NOTHING: row and CAST", x.error(2, 3, 0, 1), NOTHING);
        due("error: NOTHING: row and INDEX", x.error(0, 3, -1, 1), NOTHING);
        due("error: CAST and INDEX", x.error(1, 0, 3, 1), CAST);
        due("error: CAST and INDEX", x.error(2, 0, 0, 4), CAST);
        benchIsAsItWas(x);
    }

    // ---- promise 16

    @Says("16: The sum of places of a ROW by doubles, the first one first, from 0.0 on, each step rounded to the nearest")
    private static void plainInOrder() {
        LongSums x = withRow(DOUBLES, 1.0, 0x1p-53, 0x1p-53, -1.0);
        dueDouble("plain(0, 0, 3)", x.plain(0, 0, 3), 1.0);
        dueDouble("plain(0, 0, 4)", x.plain(0, 0, 4), 0.0);
        dueDouble("plain(0, 1, 2)", x.plain(0, 1, 2), 0x1p-52);
        dueDouble("plain(0, 1, 3)", x.plain(0, 1, 3), 0x1p-52 - 1.0);
        fill(x, 0, DOUBLES, 0x1p-53, 0x1p-53, 1.0);
        dueDouble("plain(0, 0, 3)", x.plain(0, 0, 3), 1.0 + 0x1p-52);
        fill(x, 0, DOUBLES, 1.0 + 0x1p-52, 0x1p-53);
        dueDouble("plain of a tie", x.plain(0, 0, 2), 1.0 + 0x1p-51);
        fill(x, 0, FLOATS, 1.0, 0x1p-30, 0x1p-53);
        dueDouble("plain of floats by doubles", x.plain(0, 0, 3), 1.0 + 0x1p-30);
    }

    @Says("16: from 0.0 on (none; -0.0)")
    private static void plainOfNothing() {
        LongSums x = withRow(DOUBLES, -0.0, -0.0, 5.0, -5.0);
        dueDouble("plain(0, 0, 0)", x.plain(0, 0, 0), 0.0);
        dueDouble("plain(0, 4, 0)", x.plain(0, 4, 0), 0.0);
        dueDouble("plain of -0.0", x.plain(0, 0, 1), 0.0);
        dueDouble("plain of two -0.0", x.plain(0, 0, 2), 0.0);
        dueDouble("plain of 5.0, -5.0", x.plain(0, 2, 2), 0.0);
        dueDouble("plain of -0.0 and 5.0", x.plain(0, 1, 2), 5.0);
        fill(x, 0, FLOATS, 7.0, -0.0);
        dueDouble("plain of 7.0 and -0.0", x.plain(0, 0, 2), 7.0);
    }

    @Says("16: (longs as doubles) (each KIND, all the 40 places)")
    private static void plainOfAll() {
        for (int kind = BYTES; kind <= DOUBLES; kind++) {
            LongSums x = new LongSums();
            x.row(11, kind, 40);
            for (int place = 0; place < 40; place++) {
                x.put(11, place, place - 100, 0);
            }
            dueDouble("plain(11, 0, 40)", x.plain(11, 0, 40), -3220.0);
            dueDouble("plain(11, 39, 1)", x.plain(11, 39, 1), -61.0);
        }
        LongSums x = withRow(LONGS, FULL, 2.0, FULL);
        dueDouble("plain of longs", x.plain(0, 0, 2), 0x1p53);
        dueDouble("plain of longs", x.plain(0, 0, 3), 0x1p54);
    }

    @Says("16: by doubles .. each step rounded to the nearest (beyond the greatest, and where it is ENDLESS)")
    private static void plainBeyond() {
        LongSums x = withRow(DOUBLES, MOST, 0x1p970, -MOST, -0x1p970, MOST, 0x1p969);
        dueDouble("plain at half a step beyond", x.plain(0, 0, 2), ENDLESS);
        dueDouble("plain, and back", x.plain(0, 0, 4), ENDLESS);
        dueDouble("plain below 0", x.plain(0, 2, 2), -ENDLESS);
        dueDouble("plain below 0, and back", x.plain(0, 2, 3), -ENDLESS);
        dueDouble("plain below half a step beyond", x.plain(0, 4, 2), MOST);
        fill(x, 0, DOUBLES, ENDLESS, 1.0, ENDLESS, -MOST);
        dueDouble("plain of ENDLESS above", x.plain(0, 0, 4), ENDLESS);
        fill(x, 0, DOUBLES, -ENDLESS, 1.0, -ENDLESS, MOST);
        dueDouble("plain of ENDLESS below", x.plain(0, 0, 4), -ENDLESS);
        fill(x, 0, DOUBLES, MOST, -ENDLESS, -MOST, ENDLESS);
        dueDouble("plain of the greatest and ENDLESS below", x.plain(0, 0, 2), -ENDLESS);
        dueDouble("plain of the greatest below 0 and ENDLESS above", x.plain(0, 2, 2), ENDLESS);
    }

    @Says("16: 0.0 where it is NO NUMBER")
    private static void plainOfNoNumber() {
        LongSums x = withRow(DOUBLES, 5.0, NO_NUMBER, 7.0, ENDLESS, -ENDLESS, 9.0, MOST, MOST, -ENDLESS, 1.0);
        dueDouble("plain(0, 0, 1)", x.plain(0, 0, 1), 5.0);
        dueDouble("plain of NO NUMBER at the end", x.plain(0, 0, 2), 0.0);
        dueDouble("plain of NO NUMBER between", x.plain(0, 0, 3), 0.0);
        dueDouble("plain of NO NUMBER alone", x.plain(0, 1, 1), 0.0);
        dueDouble("plain of NO NUMBER at first", x.plain(0, 1, 3), 0.0);
        dueDouble("plain of both ENDLESS", x.plain(0, 3, 2), 0.0);
        dueDouble("plain of both ENDLESS and more", x.plain(0, 3, 3), 0.0);
        dueDouble("plain of one that has become ENDLESS", x.plain(0, 6, 3), 0.0);
        dueDouble("plain of one that has become ENDLESS, and more", x.plain(0, 6, 4), 0.0);
        fill(x, 0, DOUBLES, -MOST, -MOST, ENDLESS);
        dueDouble("plain of one that has become ENDLESS below", x.plain(0, 0, 3), 0.0);
        fill(x, 0, DOUBLES, -ENDLESS, ENDLESS, 3.0);
        dueDouble("plain of both ENDLESS", x.plain(0, 0, 3), 0.0);
    }

    @Says("16: or where error() would refuse for row, many, or places")
    private static void plainRefused() {
        LongSums x = bench();
        for (int row : NOT_ROWS) {
            dueDouble("plain(" + row + ", 0, 1)", x.plain(row, 0, 1), 0.0);
        }
        dueDouble("plain of a MISSING row", x.plain(3, 0, 1), 0.0);
        for (int many : new int[] {-1, -3, 41, LOW, HIGH, 4, 40}) {
            dueDouble("plain(0, 0, " + many + ")", x.plain(0, 0, many), 0.0);
            dueDouble("plain(0, 1, " + many + ")", x.plain(0, 1, many), 0.0);
        }
        for (int place : new int[] {-1, 3, 40, LOW, HIGH}) {
            dueDouble("plain(0, " + place + ", 1)", x.plain(0, place, 1), 0.0);
        }
        dueDouble("plain(0, -1, 2)", x.plain(0, -1, 2), 0.0);
        dueDouble("plain(0, 2, 2)", x.plain(0, 2, 2), 0.0);
        dueDouble("plain(0, 4, 0)", x.plain(0, 4, 0), 0.0);
        dueDouble("plain of an empty row", x.plain(2, 0, 1), 0.0);
        benchIsAsItWas(x);
    }

    // ---- promise 17

    @Says("17: What a KEEPER is: 0 a number, 1 ENDLESS above, 2 ENDLESS below, 3 NO NUMBER")
    private static void sortOfEach() {
        double[] numbers = {0.0, ENDLESS, -ENDLESS, NO_NUMBER};
        for (int sort = 0; sort <= 3; sort++) {
            LongSums x = sums(numbers[sort]);
            due("sort ADDED", x.sort(0), sort);
            due("sort TAKEN", x.sort(1), sort == 1 ? 2 : sort == 2 ? 1 : sort);
            x.keeper(5, SUMS);
            x.merge(5, 0);
            due("sort merged", x.sort(5), sort);
            x.merge(5, 1);
            due("sort merged with its other side", x.sort(5), sort == 0 ? 0 : 3);
        }
    }

    @Says("17: OUTSIDE; NOTHING")
    private static void sortRefused() {
        LongSums x = bench();
        for (int keeper : NOT_KEEPERS) {
            due("sort(" + keeper + ")", x.sort(keeper), OUTSIDE);
        }
        for (int keeper = 3; keeper <= 5; keeper++) {
            due("sort(" + keeper + ")", x.sort(keeper), NOTHING);
        }
        benchIsAsItWas(x);
    }

    // ---- promise 18

    @Says("18: How many a KEEPER has SEEN: what 0 NO NUMBER, 1 ENDLESS above, 2 ENDLESS below")
    private static void seenOfEach() {
        LongSums x = new LongSums();
        x.row(0, DOUBLES, 40);
        for (int place = 0; place < 40; place++) {
            x.mark(0, place, place < 4 ? 0 : place < 13 ? 1 : 2);
        }
        x.keeper(5, SUMS);
        due("add", x.add(5, 0, 0, 40), 40);
        seenIs(x, 5, 27, 4, 9);
        due("add", x.add(5, 0, 0, -40), 40);
        seenIs(x, 5, 54, 13, 13);
    }

    @Says("18: OUTSIDE; NOTHING")
    private static void seenRefused() {
        LongSums x = bench();
        for (int keeper : NOT_KEEPERS) {
            due("seen(" + keeper + ", 0)", x.seen(keeper, 0), OUTSIDE);
        }
        for (int what : new int[] {-1, 3, LOW, HIGH}) {
            due("seen(0, " + what + ")", x.seen(0, what), OUTSIDE);
            due("seen(3, " + what + "): and NOTHING", x.seen(3, what), OUTSIDE);
        }
        for (int what = 0; what <= 2; what++) {
            due("seen(3, " + what + ")", x.seen(3, what), NOTHING);
            due("seen(5, " + what + ")", x.seen(5, what), NOTHING);
        }
        benchIsAsItWas(x);
    }

    // ---- promise 19

    @Says("19: A KEEPER ROUNDED by a WAY, to a float (isFloat) or a double")
    private static void tellByEachWay() {
        LongSums x = sums(1.0, 0x1p-40, 0x1p-80);
        double[] doubles = {1.0 + 0x1p-40, 1.0 + 0x1p-40, 1.0 + 0x1p-40 + 0x1p-52, 1.0 + 0x1p-40};
        double[] floats = {1.0, 1.0, 1.0 + 0x1p-23, 1.0};
        for (int way = 0; way <= 3; way++) {
            dueDouble("tell(0, " + way + ", false)", x.tell(0, way, false), doubles[way]);
            dueDouble("tell(0, " + way + ", true)", x.tell(0, way, true), floats[way]);
        }
    }

    @Says("19: A KEEPER ROUNDED (and stays as exact as it was)")
    private static void tellLeavesTheSum() {
        LongSums x = sums(MOST, 1.0, LEAST, -MOST);
        for (int i = 0; i < 3; i++) {
            x.tell(0, i, true);
            x.mean(0, 3, i);
            x.length(0, true);
            x.high(0);
            x.bit(0, 5);
            x.order(0, 1);
            dueDouble("tell(0, 3, false)", x.tell(0, 3, false), 1.0);
            dueDouble("tell(0, 2, false)", x.tell(0, 2, false), 1.0 + 0x1p-52);
            dueDouble("tell(1, 3, false)", x.tell(1, 3, false), -1.0 - 0x1p-52);
        }
    }

    @Says("19: ENDLESS if it is that")
    private static void tellEndless() {
        LongSums x = sums(ENDLESS, -MOST, 1.0);
        for (int way = 0; way <= 3; way++) {
            dueDouble("tell(0, " + way + ", false)", x.tell(0, way, false), ENDLESS);
            dueDouble("tell(0, " + way + ", true)", x.tell(0, way, true), ENDLESS);
            dueDouble("tell(1, " + way + ", false)", x.tell(1, way, false), -ENDLESS);
            dueDouble("tell(1, " + way + ", true)", x.tell(1, way, true), -ENDLESS);
        }
    }

    @Says("19: 0.0 if it is NO NUMBER")
    private static void tellNoNumber() {
        LongSums x = sums(5.0, NO_NUMBER);
        LongSums y = sums(5.0, ENDLESS, -ENDLESS);
        for (int way = 0; way <= 3; way++) {
            dueDouble("tell of NO NUMBER by " + way, x.tell(0, way, false), 0.0);
            dueDouble("tell of both ENDLESS by " + way, y.tell(1, way, true), 0.0);
        }
    }

    @Says("19: or OUTSIDE, NOTHING would be told")
    private static void tellRefused() {
        LongSums x = bench();
        for (int keeper : NOT_KEEPERS) {
            dueDouble("tell(" + keeper + ", 0, false)", x.tell(keeper, 0, false), 0.0);
        }
        for (int way : new int[] {-1, 4, LOW, HIGH}) {
            dueDouble("tell(0, " + way + ", false)", x.tell(0, way, false), 0.0);
            dueDouble("tell(0, " + way + ", true)", x.tell(0, way, true), 0.0);
        }
        dueDouble("tell(3, 0, false)", x.tell(3, 0, false), 0.0);
        dueDouble("tell(5, 2, true)", x.tell(5, 2, true), 0.0);
        benchIsAsItWas(x);
        x = sums(ENDLESS);
        dueDouble("tell of ENDLESS by -1", x.tell(0, -1, false), 0.0);
        dueDouble("tell of ENDLESS by 4", x.tell(0, 4, false), 0.0);
    }

    @Says("19: or OUTSIDE, NOTHING would be told (of a keeper that has been)")
    private static void tellOfOneUndone() {
        LongSums x = withRow(DOUBLES, 5.0);
        x.keeper(5, SUMS);
        x.undo();
        dueDouble("tell(5, 0, false)", x.tell(5, 0, false), 0.0);
        x.keeper(0, SUMS);
        x.add(0, 0, 0, 1);
        x.undo();
        dueDouble("tell(0, 0, false)", x.tell(0, 0, false), 0.0);
        due("sort(0)", x.sort(0), 0);
        x.undo();
        due("sort(0)", x.sort(0), NOTHING);
    }

    // ---- promise 20

    private static void means(LongSums x, int keeper, int n, double... wants) {
        for (int way = 0; way <= 3; way++) {
            dueDouble("mean(" + keeper + ", " + n + ", " + way + ")", x.mean(keeper, n, way), wants[way]);
        }
    }

    @Says("20: The EXACT SUM divided by n, ROUNDED by a WAY to a double")
    private static void meanByEachWay() {
        double third = 1.0 / 3.0;
        LongSums x = sums(1.0);
        means(x, 0, 3, third, third, Math.nextUp(third), third);
        means(x, 1, 3, -third, -third, -third, -Math.nextUp(third));
        double tenThirds = 10.0 / 3.0;
        x = sums(10.0);
        means(x, 0, 3, tenThirds, Math.nextDown(tenThirds), tenThirds, Math.nextDown(tenThirds));
        means(x, 1, 3, -tenThirds, -Math.nextDown(tenThirds), -Math.nextDown(tenThirds), -tenThirds);
        means(x, 0, 5, 2.0, 2.0, 2.0, 2.0);
        means(x, 1, 4, -2.5, -2.5, -2.5, -2.5);
    }

    @Says("20: ROUNDED (once: the sum is not rounded before it is divided)")
    private static void meanRoundedOnce() {
        LongSums x = sums(3.0, 3 * 0x1p-53, LEAST);
        means(x, 0, 3, 1.0 + 0x1p-52, 1.0, 1.0 + 0x1p-52, 1.0);
        x = sums(3.0, 3 * 0x1p-53);
        means(x, 0, 3, 1.0, 1.0, 1.0 + 0x1p-52, 1.0);
        means(x, 1, 3, -1.0, -1.0, -1.0, -1.0 - 0x1p-52);
        x = sums(3.0, 3 * 0x1p-53, -LEAST);
        means(x, 0, 3, 1.0, 1.0, 1.0 + 0x1p-52, 1.0);
        x = sums(3.0, LEAST);
        means(x, 0, 3, 1.0, 1.0, 1.0 + 0x1p-52, 1.0);
        x = sums(3.0, 9 * 0x1p-53);
        means(x, 0, 3, 1.0 + 0x1p-51, 1.0 + 0x1p-52, 1.0 + 0x1p-51, 1.0 + 0x1p-52);
    }

    @Says("20: n 1 (the least): as tell()")
    private static void meanOfOne() {
        double[][] numbers = {{1.0, 0x1p-53}, {MOST, MOST}, {MOST, 0x1p970}, {LEAST}, {-3.0}, {0.0},
            {ENDLESS}, {-ENDLESS}, {NO_NUMBER}};
        for (double[] each : numbers) {
            LongSums x = sums(each);
            for (int way = 0; way <= 3; way++) {
                dueDouble("mean(0, 1, " + way + ")", x.mean(0, 1, way), x.tell(0, way, false));
                dueDouble("mean(1, 1, " + way + ")", x.mean(1, 1, way), x.tell(1, way, false));
            }
        }
    }

    @Says("20: n .. 1000000 (the largest)")
    private static void meanOfAMillion() {
        LongSums x = sums(1.0);
        dueDouble("mean(0, 1000000, 0)", x.mean(0, 1000000, 0), 1.0e-6);
        dueDouble("mean(0, 999999, 0)", x.mean(0, 999999, 0), 1.0 / 999999.0);
        dueDouble("mean(0, 1000001, 0)", x.mean(0, 1000001, 0), 0.0);
        x = sums(MOST, MOST, MOST, -1.0);
        BigDecimal three = new BigDecimal(MOST).multiply(new BigDecimal(3));
        dueDouble("mean(0, 1000000, 0)", x.mean(0, 1000000, 0), three.divide(new BigDecimal(1000000)).doubleValue());
    }

    @Says("20: 0.0 also where n is not 1 .. 1000000")
    private static void meanRefusedCount() {
        LongSums x = bench();
        for (int n : new int[] {0, -1, 1000001, LOW, HIGH}) {
            for (int way = 0; way <= 3; way++) {
                dueDouble("mean(0, " + n + ", " + way + ")", x.mean(0, n, way), 0.0);
            }
        }
        benchIsAsItWas(x);
        x = sums(ENDLESS);
        dueDouble("mean(0, 0, 0) of ENDLESS", x.mean(0, 0, 0), 0.0);
        dueDouble("mean(1, 1000001, 0) of ENDLESS below", x.mean(1, 1000001, 0), 0.0);
    }

    @Says("20: else as tell(): ENDLESS if it is that; 0.0 if it is NO NUMBER")
    private static void meanElse() {
        LongSums x = sums(ENDLESS, 3.0);
        means(x, 0, 1000000, ENDLESS, ENDLESS, ENDLESS, ENDLESS);
        means(x, 1, 2, -ENDLESS, -ENDLESS, -ENDLESS, -ENDLESS);
        x = sums(NO_NUMBER, 3.0);
        means(x, 0, 2, 0.0, 0.0, 0.0, 0.0);
        x = sums(ENDLESS, 3.0, -ENDLESS);
        means(x, 0, 2, 0.0, 0.0, 0.0, 0.0);
    }

    @Says("20: else as tell(): or OUTSIDE, NOTHING would be told")
    private static void meanRefused() {
        LongSums x = bench();
        for (int keeper : NOT_KEEPERS) {
            dueDouble("mean(" + keeper + ", 1, 0)", x.mean(keeper, 1, 0), 0.0);
        }
        for (int way : new int[] {-1, 4, LOW, HIGH}) {
            dueDouble("mean(0, 1, " + way + ")", x.mean(0, 1, way), 0.0);
        }
        dueDouble("mean(3, 1, 0)", x.mean(3, 1, 0), 0.0);
        benchIsAsItWas(x);
        x = sums(ENDLESS);
        dueDouble("mean of ENDLESS by 4", x.mean(0, 1, 4), 0.0);
    }

    @Says("20: ROUNDED .. to a double: between 0 and the least")
    private static void meanBelowTheLeast() {
        LongSums x = sums(LEAST);
        means(x, 0, 2, 0.0, 0.0, LEAST, 0.0);
        means(x, 1, 2, 0.0, 0.0, 0.0, -LEAST);
        means(x, 0, 1000000, 0.0, 0.0, LEAST, 0.0);
        x = sums(2 * LEAST);
        means(x, 0, 3, LEAST, 0.0, LEAST, 0.0);
        means(x, 1, 3, -LEAST, 0.0, 0.0, -LEAST);
        means(x, 0, 5, 0.0, 0.0, LEAST, 0.0);
        x = sums(3 * LEAST);
        means(x, 0, 2, 2 * LEAST, LEAST, 2 * LEAST, LEAST);
        means(x, 0, 3, LEAST, LEAST, LEAST, LEAST);
        x = sums(0.0);
        means(x, 0, 1000000, 0.0, 0.0, 0.0, 0.0);
    }

    @Says("20: ROUNDED .. to a double: between 0 and the least (shares of the least of all sums, not a whole 2^-2148)")
    private static void meanOfTheLeastOfAllSums() {
        LongSums x = pairs(LEAST, LEAST);
        for (int n : new int[] {1, 2, 3, 1000000}) {
            means(x, 0, n, 0.0, 0.0, LEAST, 0.0);
            means(x, 1, n, 0.0, 0.0, 0.0, -LEAST);
        }
        x = pairs(LEAST, 1.0, LEAST, LEAST);
        means(x, 0, 2, LEAST, 0.0, LEAST, 0.0);
        x = pairs(LEAST, 1.0, -LEAST, LEAST);
        means(x, 0, 2, 0.0, 0.0, LEAST, 0.0);
        means(x, 1, 2, 0.0, 0.0, 0.0, -LEAST);
    }

    @Says("20: ROUNDED .. to a double: beyond the greatest")
    private static void meanBeyond() {
        LongSums x = sums(MOST, MOST, MOST);
        means(x, 0, 3, MOST, MOST, MOST, MOST);
        means(x, 1, 3, -MOST, -MOST, -MOST, -MOST);
        means(x, 0, 2, ENDLESS, MOST, ENDLESS, MOST);
        means(x, 1, 2, -ENDLESS, -MOST, -MOST, -ENDLESS);
        x = sums(MOST, MOST, LEAST);
        means(x, 0, 2, MOST, MOST, ENDLESS, MOST);
        means(x, 1, 2, -MOST, -MOST, -MOST, -ENDLESS);
        x = sums(MOST, MOST, 0x1p971);
        means(x, 0, 2, ENDLESS, MOST, ENDLESS, MOST);
        x = sums(MOST, MOST, 0x1p971, -LEAST);
        means(x, 0, 2, MOST, MOST, ENDLESS, MOST);
    }

    // ---- promise 21

    private static void lengths(LongSums x, int keeper, double down, double up) {
        dueDouble("length(" + keeper + ", false)", x.length(keeper, false), down);
        dueDouble("length(" + keeper + ", true)", x.length(keeper, true), up);
    }

    @Says("21: the greatest double whose square is not above the EXACT SUM (up: the least whose square is not below it)")
    private static void lengthBetween() {
        double next = Math.nextUp(5.0);
        LongSums x = pairs(3.0, 3.0, 4.0, 4.0);
        lengths(x, 0, 5.0, 5.0);
        x = pairs(5.0, 5.0, LEAST, LEAST);
        lengths(x, 0, 5.0, next);
        for (int e = -48; e >= -1000; e -= e > -110 ? 1 : 89) {
            x = pairs(5.0, 5.0, Math.scalb(1.0, e), 1.0);
            lengths(x, 0, 5.0, next);
            lengths(pairs(5.0, 5.0, Math.scalb(-1.0, e), 1.0), 0, Math.nextDown(5.0), 5.0);
        }
        x = pairs(5.0, 5.0, -LEAST, LEAST);
        lengths(x, 0, Math.nextDown(5.0), 5.0);
        x = pairs(next, next);
        lengths(x, 0, next, next);
        x = pairs(next, next, -LEAST, LEAST);
        lengths(x, 0, 5.0, next);
        x = pairs(2.0, 1.0);
        lengths(x, 0, Math.nextDown(Math.sqrt(2.0)), Math.sqrt(2.0));
        x = pairs(3.0, 1.0);
        lengths(x, 0, Math.sqrt(3.0), Math.nextUp(Math.sqrt(3.0)));
        x = pairs(0x1p-1023, 1.0);
        lengths(x, 0, Math.nextDown(Math.scalb(Math.sqrt(2.0), -512)), Math.scalb(Math.sqrt(2.0), -512));
    }

    @Says("21: the greatest double whose square is not above .. (of 0)")
    private static void lengthOfNought() {
        LongSums x = pairs(3.0, 3.0, -3.0, 3.0);
        lengths(x, 0, 0.0, 0.0);
        lengths(x, 1, 0.0, 0.0);
        x.keeper(5, SQUARES);
        lengths(x, 5, 0.0, 0.0);
    }

    @Says("21: the greatest double whose square is not above .. (of the least of all sums, and a few more)")
    private static void lengthOfTheLeast() {
        LongSums x = pairs(LEAST, LEAST);
        double[] downs = {0, 1, 1, 1, 2, 2, 2, 2, 2, 3};
        double[] ups = {0, 1, 2, 2, 2, 3, 3, 3, 3, 3};
        x.clear(0);
        for (int i = 0; i <= 9; i++) {
            lengths(x, 0, downs[i] * LEAST, ups[i] * LEAST);
            x.pair(0, 0, 1, 0, 1);
        }
        x = pairs(LEAST, 0x1p-1022);
        lengths(x, 0, 0x1p-1048, 0x1p-1048);
        x = pairs(LEAST, 0x1p-1022, LEAST, LEAST);
        lengths(x, 0, 0x1p-1048, 0x1p-1048 + LEAST);
        x = pairs(0x1p-1022, 0x1p-1022);
        lengths(x, 0, 0x1p-1022, 0x1p-1022);
        x = pairs(0x1p-1022, 0x1p-1022, LEAST, -LEAST);
        lengths(x, 0, 0x1p-1022 - LEAST, 0x1p-1022);
        x = pairs(0x1p-1021, 0x1p-1021, LEAST, LEAST);
        lengths(x, 0, 0x1p-1021, 0x1p-1021 + 2 * LEAST);
    }

    @Says("21: ENDLESS if there is none")
    private static void lengthBeyond() {
        LongSums x = pairs(MOST, MOST);
        lengths(x, 0, MOST, MOST);
        x = pairs(MOST, MOST, LEAST, LEAST);
        lengths(x, 0, MOST, ENDLESS);
        x = pairs(MOST, MOST, LEAST, -LEAST);
        lengths(x, 0, Math.nextDown(MOST), MOST);
        x = pairs(MOST, MOST, MOST, MOST, MOST, MOST);
        lengths(x, 0, MOST, ENDLESS);
        x.merge(0, 0);
        x.merge(0, 0);
        lengths(x, 0, MOST, ENDLESS);
        x = pairs(0x1p1023, 0x1p1023);
        lengths(x, 0, 0x1p1023, 0x1p1023);
    }

    @Says("21: ENDLESS if the KEEPER is that above")
    private static void lengthOfEndless() {
        LongSums x = pairs(ENDLESS, 2.0, 3.0, 3.0);
        lengths(x, 0, ENDLESS, ENDLESS);
        // Of two that fit here the one that the document tells first.
        x = pairs(ENDLESS, 2.0, -3.0, 3.0);
        lengths(x, 0, ENDLESS, ENDLESS);
        x.keeper(5, SQUARES);
        set(x, 0, 0, -ENDLESS);
        x.add(5, 0, 0, 1);
        lengths(x, 5, ENDLESS, ENDLESS);
    }

    @Says("21: 0.0 where the sum is below 0")
    private static void lengthBelowNought() {
        LongSums x = pairs(3.0, 3.0);
        lengths(x, 1, 0.0, 0.0);
        x = pairs(LEAST, LEAST);
        lengths(x, 1, 0.0, 0.0);
        x = pairs(MOST, MOST);
        lengths(x, 1, 0.0, 0.0);
    }

    @Says("21: 0.0 where .. it is NO NUMBER, ENDLESS below")
    private static void lengthOfNoNumber() {
        LongSums x = pairs(ENDLESS, 2.0, 3.0, 3.0, -ENDLESS, 1.0);
        lengths(x, 0, 0.0, 0.0);
        x = pairs(NO_NUMBER, 2.0, 3.0, 3.0);
        lengths(x, 0, 0.0, 0.0);
        x = pairs(ENDLESS, 0.0, 3.0, 3.0);
        lengths(x, 0, 0.0, 0.0);
        x = pairs(-ENDLESS, 2.0, 3.0, 3.0);
        lengths(x, 0, 0.0, 0.0);
        lengths(x, 1, ENDLESS, ENDLESS);
    }

    @Says("21: 0.0 where .. of SUMS")
    private static void lengthOfSums() {
        LongSums x = sums(25.0);
        lengths(x, 0, 0.0, 0.0);
        x = sums(ENDLESS);
        lengths(x, 0, 0.0, 0.0);
        lengths(x, 1, 0.0, 0.0);
    }

    @Says("21: 0.0 where .. or OUTSIDE, NOTHING would be told")
    private static void lengthRefused() {
        LongSums x = bench();
        for (int keeper : NOT_KEEPERS) {
            lengths(x, keeper, 0.0, 0.0);
        }
        for (int keeper = 3; keeper <= 5; keeper++) {
            lengths(x, keeper, 0.0, 0.0);
        }
        lengths(x, 2, 5.0, 5.0);
        benchIsAsItWas(x);
    }

    // ---- promise 22

    @Says("22: Of the EXACT SUM: 1 above 0, 0, 2 below 0")
    private static void signOfEach() {
        for (double number : new double[] {LEAST, 1.0, 0x1p32, 0x1p31, MOST}) {
            LongSums x = sums(number);
            due("sign(0)", x.sign(0), 1);
            due("sign(1)", x.sign(1), 2);
            x.merge(0, 1);
            due("sign(0)", x.sign(0), 0);
            x.clear(1);
            due("sign(1)", x.sign(1), 0);
        }
        LongSums x = pairs(LEAST, LEAST);
        due("sign(0)", x.sign(0), 1);
        due("sign(1)", x.sign(1), 2);
    }

    @Says("22: Of the EXACT SUM (whatever has been SEEN)")
    private static void signOfWhatIsSeen() {
        LongSums x = sums(ENDLESS, -1.0);
        due("sign(0)", x.sign(0), 2);
        due("sign(1)", x.sign(1), 1);
        x = sums(NO_NUMBER, ENDLESS, -ENDLESS);
        due("sign(0)", x.sign(0), 0);
        x = sums(NO_NUMBER, LEAST);
        due("sign(0)", x.sign(0), 1);
    }

    @Says("22: OUTSIDE; NOTHING")
    private static void signRefused() {
        LongSums x = bench();
        for (int keeper : NOT_KEEPERS) {
            due("sign(" + keeper + ")", x.sign(keeper), OUTSIDE);
        }
        for (int keeper = 3; keeper <= 5; keeper++) {
            due("sign(" + keeper + ")", x.sign(keeper), NOTHING);
        }
        benchIsAsItWas(x);
    }

    // ---- promise 23

    @Says("23: The place of the highest bit of its size, as a power of two")
    private static void highOfEach() {
        for (int e = -1074; e <= 971; e++) {
            LongSums x = new LongSums();
            x.row(0, DOUBLES, 2);
            x.put(0, 0, 1, e);
            x.put(0, 1, -1, -1074);
            x.keeper(0, SUMS);
            x.add(0, 0, 0, 1);
            due("high of 2^" + e, x.high(0), e);
            x.add(0, 0, 1, 1);
            due("high of 2^" + e + " less the least", x.high(0), e == -1074 ? -10000 : e - 1);
            x.clear(0);
            x.add(0, 0, 0, -1);
            due("high of -2^" + e, x.high(0), e);
        }
    }

    @Says("23: of its size (the least, the greatest, below 0, what is ENDLESS beside it)")
    private static void highOfLeastAndGreatest() {
        LongSums x = sums(LEAST);
        due("high(0)", x.high(0), -1074);
        due("high(1)", x.high(1), -1074);
        x = sums(MOST);
        due("high(0)", x.high(0), 1023);
        due("high(1)", x.high(1), 1023);
        x = pairs(LEAST, LEAST);
        due("high(0)", x.high(0), -2148);
        due("high(1)", x.high(1), -2148);
        x = pairs(MOST, MOST);
        due("high(0)", x.high(0), 2047);
        due("high(1)", x.high(1), 2047);
        x = sums(ENDLESS, NO_NUMBER, -5.0);
        due("high(0)", x.high(0), 2);
    }

    @Says("23: NONE - 9999 of 0")
    private static void highOfNought() {
        LongSums x = sums(MOST, LEAST, -LEAST, -MOST, -0.0);
        due("high(0)", x.high(0), -10000);
        due("high(1)", x.high(1), -10000);
        x = sums(ENDLESS, NO_NUMBER);
        due("high(0)", x.high(0), -10000);
    }

    @Says("23: OUTSIDE - 9999, NOTHING - 9999")
    private static void highRefused() {
        LongSums x = bench();
        for (int keeper : NOT_KEEPERS) {
            due("high(" + keeper + ")", x.high(keeper), -10002);
        }
        for (int keeper = 3; keeper <= 5; keeper++) {
            due("high(" + keeper + ")", x.high(keeper), -10010);
        }
        benchIsAsItWas(x);
    }

    // ---- promise 24

    @Says("24: Bit p (of 2 to the power p) of its size: 1, 0")
    private static void bitsOfEach() {
        long m = 0x15555555555555L;
        LongSums x = new LongSums();
        x.row(0, DOUBLES, 1);
        x.keeper(0, SUMS);
        x.keeper(1, SUMS);
        for (int e : new int[] {-1074, -1028, -36, 0, 31, 971}) {
            x.put(0, 0, m, e);
            x.clear(0);
            x.clear(1);
            x.add(0, 0, 0, 1);
            x.add(1, 0, 0, -1);
            for (int p = -2; p <= 54; p += p > 4 && p < 28 ? 7 : 1) {
                int want = p >= 0 && p <= 52 && p % 2 == 0 ? 1 : 0;
                due("bit(0, " + (e + p) + ")", x.bit(0, e + p), want);
                due("bit(1, " + (e + p) + ") of one below 0", x.bit(1, e + p), want);
            }
        }
    }

    @Says("24: p is not -2148 .. 2200 (the least and the largest)")
    private static void bitFirstAndLast() {
        LongSums x = pairs(LEAST, LEAST);
        due("bit(0, -2148)", x.bit(0, -2148), 1);
        due("bit(1, -2148)", x.bit(1, -2148), 1);
        due("bit(0, -2147)", x.bit(0, -2147), 0);
        due("bit(0, -2149)", x.bit(0, -2149), OUTSIDE);
        due("bit(0, 2200)", x.bit(0, 2200), 0);
        due("bit(0, 2201)", x.bit(0, 2201), OUTSIDE);
        due("bit(0, the least int)", x.bit(0, LOW), OUTSIDE);
        due("bit(0, the greatest int)", x.bit(0, HIGH), OUTSIDE);
    }

    @Says("24: p .. 2200 (a sum that comes so far, and beyond)")
    private static void bitFarUp() {
        LongSums x = pairs(0x1p1023, 0x1p1023);
        for (int i = 0; i < 154; i++) {
            x.merge(0, 0);
        }
        due("high(0)", x.high(0), 2200);
        due("bit(0, 2200)", x.bit(0, 2200), 1);
        due("bit(0, 2199)", x.bit(0, 2199), 0);
        x.merge(0, 0);
        due("high(0)", x.high(0), 2201);
        due("bit(0, 2200)", x.bit(0, 2200), 0);
        due("bit(0, 2201)", x.bit(0, 2201), OUTSIDE);
    }

    @Says("24: OUTSIDE: keeper, p ..; NOTHING")
    private static void bitRefused() {
        LongSums x = bench();
        for (int keeper : NOT_KEEPERS) {
            due("bit(" + keeper + ", 0)", x.bit(keeper, 0), OUTSIDE);
        }
        for (int keeper = 3; keeper <= 5; keeper++) {
            due("bit(" + keeper + ", -2148)", x.bit(keeper, -2148), NOTHING);
            due("bit(" + keeper + ", 2200)", x.bit(keeper, 2200), NOTHING);
            due("bit(" + keeper + ", 2201): and NOTHING", x.bit(keeper, 2201), OUTSIDE);
            due("bit(" + keeper + ", -2149): and NOTHING", x.bit(keeper, -2149), OUTSIDE);
        }
        benchIsAsItWas(x);
    }

    // ---- promise 25

    @Says("25: 1 if two KEEPERS' EXACT SUMS are the same, 2 the first is less, 3 greater")
    private static void orderOfEach() {
        double[] numbers = {-MOST, -1.0, -LEAST, 0.0, LEAST, 1.0, 1.0 + 0x1p-52, 0x1p32, MOST};
        for (int one = 0; one < numbers.length; one++) {
            for (int other = 0; other < numbers.length; other++) {
                LongSums x = withRow(DOUBLES, numbers[one], numbers[other]);
                x.keeper(0, SUMS);
                x.keeper(5, SUMS);
                x.add(0, 0, 0, 1);
                x.add(5, 0, 1, 1);
                due("order of " + numbers[one] + " and " + numbers[other], x.order(0, 5), one == other ? 1 : one < other ? 2 : 3);
            }
        }
    }

    @Says("25: the same .. less .. greater (by the last bit of far apart ones; sums that came another way)")
    private static void orderByTheLastBit() {
        LongSums x = pairs(MOST, MOST, LEAST, LEAST);
        x.keeper(2, PAIRS);
        x.pair(2, 0, 1, 0, 1);
        due("order", x.order(0, 2), 3);
        due("order", x.order(2, 0), 2);
        x.pair(2, 0, 1, 1, 1);
        due("order", x.order(0, 2), 1);
        x.pair(2, 0, 1, 1, 1);
        due("order", x.order(0, 2), 2);
        x.clear(2);
        x.pair(2, 0, 1, 0, -2);
        due("order of two below 0", x.order(1, 2), 1);
        x.pair(2, 0, 1, 1, -1);
        due("order of two below 0", x.order(1, 2), 3);
        due("order of two below 0", x.order(2, 1), 2);
    }

    @Says("25: two KEEPERS' EXACT SUMS (the same keeper; of other KINDS; whatever has been SEEN)")
    private static void orderOfAny() {
        LongSums x = withRow(DOUBLES, 1.0, ENDLESS, NO_NUMBER, -ENDLESS);
        for (int kind = SUMS; kind <= SQUARES; kind++) {
            x.keeper(kind, kind);
        }
        x.add(0, 0, 0, 1);
        x.pair(1, 0, 0, 0, 1);
        x.add(2, 0, 0, 1);
        for (int one = 0; one <= 2; one++) {
            for (int other = 0; other <= 2; other++) {
                due("order(" + one + ", " + other + ")", x.order(one, other), 1);
            }
        }
        x.add(0, 0, 1, 1);
        x.add(2, 0, 2, 1);
        due("order of ENDLESS and 1.0", x.order(0, 1), 1);
        due("order of NO NUMBER and ENDLESS", x.order(2, 0), 1);
        x.add(0, 0, 0, -1);
        due("order of ENDLESS with less", x.order(0, 1), 2);
        due("order with ENDLESS with less", x.order(2, 0), 3);
    }

    @Says("25: OUTSIDE; NOTHING (and two together: the first)")
    private static void orderRefused() {
        LongSums x = bench();
        for (int keeper : NOT_KEEPERS) {
            due("order(" + keeper + ", 0)", x.order(keeper, 0), OUTSIDE);
            due("order(0, " + keeper + ")", x.order(0, keeper), OUTSIDE);
            due("order(3, " + keeper + "): and NOTHING", x.order(3, keeper), OUTSIDE);
            due("order(" + keeper + ", 3): and NOTHING", x.order(keeper, 3), OUTSIDE);
        }
        due("order(0, 3)", x.order(0, 3), NOTHING);
        due("order(3, 0)", x.order(3, 0), NOTHING);
        due("order(5, 5)", x.order(5, 5), NOTHING);
        benchIsAsItWas(x);
    }

    // ---- promise 26

    @Says("26: The latest change that is kept is taken back: its KEEPER (each of the six kinds of changes)")
    private static void undoOfEachChange() {
        LongSums x = withRow(DOUBLES, 2.0, ENDLESS);
        x.keeper(4, SQUARES);
        x.keeper(5, SUMS);
        x.add(4, 0, 0, 1);
        x.pair(4, 0, 0, 0, 1);
        x.merge(4, 4);
        x.clear(4);
        x.error(5, 0, 0, 2);
        seenIs(x, 5, 0, 1, 1);
        due("undo of error", x.undo(), 5);
        seenIs(x, 5, 0, 0, 0);
        due("sign", x.sign(5), 0);
        due("undo of clear", x.undo(), 4);
        dueDouble("tell", x.tell(4, 0, false), 16.0);
        due("undo of merge", x.undo(), 4);
        dueDouble("tell", x.tell(4, 0, false), 8.0);
        due("undo of pair", x.undo(), 4);
        dueDouble("tell", x.tell(4, 0, false), 4.0);
        due("undo of add", x.undo(), 4);
        due("sign", x.sign(4), 0);
        due("undo of keeper", x.undo(), 5);
        due("sort", x.sort(5), NOTHING);
        due("sort", x.sort(4), 0);
        due("undo of keeper", x.undo(), 4);
        due("sort", x.sort(4), NOTHING);
        due("count(1)", x.count(1), 0);
    }

    @Says("26: The latest change that is kept is taken back: its KEEPER (of merge the one to which the other one came)")
    private static void undoOfMerge() {
        LongSums x = withRow(DOUBLES, 2.0, ENDLESS);
        x.keeper(0, SUMS);
        x.keeper(1, SUMS);
        x.add(0, 0, 0, 1);
        x.add(1, 0, 0, 2);
        x.merge(0, 1);
        due("undo of merge", x.undo(), 0);
        dueDouble("tell(0, 0, false)", x.tell(0, 0, false), 2.0);
        seenIs(x, 0, 0, 0, 0);
        seenIs(x, 1, 0, 1, 0);
        x.merge(1, 0);
        due("high", x.high(1), 2);
        due("undo of merge", x.undo(), 1);
        due("high", x.high(1), 1);
        dueDouble("tell(0, 0, false)", x.tell(0, 0, false), 2.0);
    }

    @Says("26: NONE: none is kept")
    private static void undoOfNone() {
        LongSums x = withRow(DOUBLES, 2.0);
        due("undo of a new object", x.undo(), NONE);
        x.keeper(0, SUMS);
        due("undo", x.undo(), 0);
        due("undo", x.undo(), NONE);
        due("undo", x.undo(), NONE);
        due("count(2)", x.count(2), 0);
        x.keeper(1, SUMS);
        due("count(2)", x.count(2), 1);
        due("undo", x.undo(), 1);
        due("undo", x.undo(), NONE);
        due("count(0)", x.count(0), 1);
    }

    @Says("26: The latest change that is kept is taken back (undo() itself is none)")
    private static void undoIsNoChange() {
        LongSums x = withRow(DOUBLES, 1.0);
        x.keeper(0, SUMS);
        x.add(0, 0, 0, 1);
        x.add(0, 0, 0, 1);
        due("undo", x.undo(), 0);
        due("count(2)", x.count(2), 2);
        dueDouble("tell", x.tell(0, 0, false), 1.0);
        due("undo", x.undo(), 0);
        due("count(2)", x.count(2), 1);
        dueDouble("tell", x.tell(0, 0, false), 0.0);
        x.add(0, 0, 0, -1);
        due("count(2)", x.count(2), 2);
        due("undo", x.undo(), 0);
        dueDouble("tell", x.tell(0, 0, false), 0.0);
    }

    @Says("26: its KEEPER (the first and the last one; one made anew under the same number)")
    private static void undoAnswersTheKeeper() {
        LongSums x = withRow(DOUBLES, 3.0);
        for (int keeper = 0; keeper <= 5; keeper++) {
            x.keeper(keeper, SUMS);
            x.add(keeper, 0, 0, 1);
        }
        for (int keeper = 5; keeper >= 0; keeper--) {
            due("undo", x.undo(), keeper);
            due("sign", x.sign(keeper), 0);
            due("undo", x.undo(), keeper);
            due("sign", x.sign(keeper), NOTHING);
            due("count(1)", x.count(1), keeper);
        }
        due("undo", x.undo(), NONE);
    }

    // ---- promise 27

    private static void counts(LongSums x, int... wants) {
        for (int what = 0; what <= 5; what++) {
            due("count(" + what + ")", x.count(what), wants[what]);
        }
    }

    @Says("27: What 0 ROWS that are not MISSING (none, all the 12; no places)")
    private static void countRows() {
        LongSums x = new LongSums();
        for (int row = 0; row <= 11; row++) {
            due("count(0)", x.count(0), row);
            x.row(row, row % 6, 0);
        }
        due("count(0)", x.count(0), 12);
        due("count(3)", x.count(3), 0);
        x.row(3, DOUBLES, 4);
        due("count(0)", x.count(0), 12);
        for (int row = 11; row >= 0; row--) {
            x.lose(row);
            due("count(0)", x.count(0), row);
        }
    }

    @Says("27: 1 KEEPERS likewise (none, all the 6; undone ones)")
    private static void countKeepers() {
        LongSums x = new LongSums();
        for (int keeper = 0; keeper <= 5; keeper++) {
            due("count(1)", x.count(1), keeper);
            x.keeper(keeper, keeper % 3);
        }
        due("count(1)", x.count(1), 6);
        x.keeper(0, PAIRS);
        x.clear(1);
        due("count(1)", x.count(1), 6);
        x.undo();
        x.undo();
        for (int keeper = 5; keeper >= 0; keeper--) {
            x.undo();
            due("count(1)", x.count(1), keeper);
        }
    }

    @Says("27: 2 changes that are kept (none, 12, never more)")
    private static void countChanges() {
        LongSums x = new LongSums();
        for (int i = 0; i < 30; i++) {
            due("count(2)", x.count(2), Math.min(i, 12));
            x.keeper(i % 6, SUMS);
        }
        for (int i = 12; i >= 0; i--) {
            due("count(2)", x.count(2), i);
            x.undo();
        }
        due("count(2)", x.count(2), 0);
    }

    @Says("27: 3 places of all ROWS (all there can be; of lost ones none)")
    private static void countPlaces() {
        LongSums x = new LongSums();
        for (int row = 0; row <= 11; row++) {
            x.row(row, row % 6, 40);
        }
        due("count(3)", x.count(3), 480);
        x.row(11, BYTES, 1);
        due("count(3)", x.count(3), 441);
        x.lose(0);
        due("count(3)", x.count(3), 401);
        x.row(0, BYTES, 41);
        due("count(3)", x.count(3), 401);
    }

    @Says("27: 4 numbers and PRODUCTS that were ADDED or TAKEN in all (each place once)")
    private static void countAdded() {
        LongSums x = withRow(DOUBLES, 1.0, 0.0, -0.0, ENDLESS, NO_NUMBER);
        x.keeper(0, SUMS);
        x.keeper(1, PAIRS);
        x.keeper(2, SQUARES);
        due("count(4)", x.count(4), 0);
        x.add(0, 0, 0, 5);
        due("count(4) after add", x.count(4), 5);
        x.add(0, 0, 0, -5);
        due("count(4) after add of many below 0", x.count(4), 10);
        x.add(2, 0, 1, 4);
        due("count(4) after add to SQUARES", x.count(4), 14);
        x.pair(1, 0, 0, 0, 5);
        due("count(4) after pair", x.count(4), 19);
        x.pair(2, 0, 0, 4, -1);
        due("count(4) after pair of many below 0", x.count(4), 20);
        x.add(0, 0, 5, 0);
        due("count(4) after add of none", x.count(4), 20);
        x.merge(0, 0);
        x.merge(1, 2);
        due("count(4) after merge", x.count(4), 20);
        x.clear(0);
        x.keeper(1, PAIRS);
        due("count(4) after clear, keeper", x.count(4), 20);
    }

    @Says("27: (undone ones, too")
    private static void countUndone() {
        LongSums x = withRow(DOUBLES, 1.0, 2.0);
        x.keeper(0, SUMS);
        x.add(0, 0, 0, 2);
        x.add(0, 0, 0, -1);
        x.error(0, 0, 0, 2);
        due("count(4)", x.count(4), 5);
        for (int i = 0; i < 4; i++) {
            x.undo();
            due("count(4) after undo", x.count(4), 5);
        }
        due("count(1)", x.count(1), 0);
        x.lose(0);
        due("count(4) after lose", x.count(4), 5);
    }

    @Says("27: of error() the places alone)")
    private static void countOfError() {
        LongSums x = withRow(DOUBLES, 1.0, MOST, MOST);
        x.keeper(0, SUMS);
        x.error(0, 0, 0, 1);
        due("count(4)", x.count(4), 1);
        x.error(0, 0, 0, 3);
        due("count(4)", x.count(4), 4);
        x.error(0, 0, 3, 0);
        due("count(4)", x.count(4), 4);
        x.plain(0, 0, 3);
        due("count(4)", x.count(4), 4);
    }

    @Says("27: 4 .. (what was refused does not count)")
    private static void countRefused() {
        LongSums x = bench();
        x.add(0, 0, 0, 4);
        x.add(1, 0, 0, 3);
        x.pair(0, 0, 0, 0, 3);
        x.pair(1, 0, 1, 0, 3);
        x.error(0, 0, 1, 3);
        x.error(1, 0, 0, 3);
        x.add(0, 3, 0, 1);
        due("count(4)", x.count(4), 8);
        benchIsAsItWas(x);
    }

    @Says("27: 5 KEEPERS that are NO NUMBER (none, all the 6)")
    private static void countNoNumbers() {
        LongSums x = withRow(DOUBLES, NO_NUMBER, ENDLESS, -ENDLESS, 1.0);
        for (int keeper = 0; keeper <= 5; keeper++) {
            x.keeper(keeper, keeper < 3 ? SUMS : SQUARES);
            x.add(keeper, 0, 3, 1);
            x.add(keeper, 0, 1, 1);
        }
        due("count(5): ENDLESS ones are not", x.count(5), 0);
        for (int keeper = 0; keeper <= 5; keeper++) {
            x.add(keeper, 0, keeper == 1 ? 2 : 0, 1);
            due("count(5)", x.count(5), keeper + 1);
        }
        x.clear(5);
        due("count(5)", x.count(5), 5);
        x.undo();
        due("count(5)", x.count(5), 6);
        x.undo();
        due("count(5)", x.count(5), 5);
        x.keeper(0, PAIRS);
        due("count(5)", x.count(5), 4);
    }

    @Says("27: 5 KEEPERS that are NO NUMBER (not one that was so and is MISSING now)")
    private static void countNoNumbersUndone() {
        LongSums x = withRow(DOUBLES, NO_NUMBER);
        x.keeper(0, SUMS);
        x.add(0, 0, 0, 1);
        counts(x, 1, 1, 2, 1, 1, 1);
        x.undo();
        x.undo();
        counts(x, 1, 0, 0, 1, 1, 0);
    }

    @Says("27: OUTSIDE")
    private static void countOutside() {
        LongSums x = bench();
        for (int what : new int[] {-1, 6, LOW, HIGH}) {
            due("count(" + what + ")", x.count(what), OUTSIDE);
        }
        benchIsAsItWas(x);
    }

    public static void main(String[] args) throws IllegalAccessException {
        for (Method method : PromiseEdgesTest.class.getDeclaredMethods()) {
            Says says = method.getAnnotation(Says.class);
            if (says == null) {
                continue;
            }
            tests++;
            sentence = method.getName() + ": \"" + says.value() + "\"";
            try {
                method.invoke(null);
            } catch (InvocationTargetException thrown) {
                wrong++;
                System.out.println(sentence + "\n    threw " + thrown.getCause());
            }
        }
        System.out.println(wrong == 0 ? "all " + tests + " sentences hold" : wrong + " answers are not as due");
        if (wrong != 0 || tests == 0) {
            System.exit(1);
        }
    }
}
