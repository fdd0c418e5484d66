import java.util.Arrays;

/**
 * A bench where rows of numbers are summed without any error. What each call promises stands in the
 * project's document; this class answers every call by a number and throws nothing.
 */
public final class LongSums {
    public static final int NONE = -1, OUTSIDE = -3, NOTHING = -11, CAST = -12, INDEX = -13, SIZE = -14;

    private static final int ROWS = 12, KEEPERS = 6, MOST_PLACES = 40, MOST_KEPT = 12;
    private static final int MOST_SEEN = 1000000000, MOST_SHARES = 1000000;

    private static final int BYTES = 0, SHORTS = 1, INTS = 2, LONGS = 3, FLOATS = 4, DOUBLES = 5;
    private static final int SUMS = 0, PAIRS = 1, SQUARES = 2;
    private static final int NEAREST = 0, TOWARDS_NOUGHT = 1, UP = 2, DOWN = 3;

    // What a place or a keeper is; -0.0 stands apart only because see() shows it.
    private static final int NUMBER = 0, ABOVE = 1, BELOW = 2, NO_NUMBER = 3, MINUS_NOUGHT = 4;

    private static final long WHOLE_LIMIT = 1L << 53;
    private static final int DOUBLE_BITS = 53, DOUBLE_LEAST = -1074, DOUBLE_GREATEST = 971;
    private static final int FLOAT_BITS = 24, FLOAT_LEAST = -149, FLOAT_GREATEST = 104;

    // 512 calls can do no more than gather 40 products below 2^2048 and double them each time:
    // below 2^2566, so that 2148 + 2566 bits and a sign are enough, and 150 limbs have more.
    private static final int LOWEST = -2148, HIGHEST_ASKED = 2200;
    private static final int LIMBS = 150, LIMB_BITS = 32;
    private static final long LIMB_MASK = 0xffffffffL;

    private static final int HIGH_FINDINGS = -9999;

    private final Row[] rows = new Row[ROWS];
    private final Keeper[] keepers = new Keeper[KEEPERS];
    private final History history = new History();
    private final Size size = new Size();
    private final Row ones = new Row();
    private final Row plainSum = new Row();
    private int gathered = 0;

    public LongSums() {
        for (int i = 0; i < ROWS; i++) {
            rows[i] = new Row();
        }
        for (int i = 0; i < KEEPERS; i++) {
            keepers[i] = new Keeper();
        }
        plainSum.renew(DOUBLES, 1);
        ones.renew(LONGS, MOST_PLACES);
        for (int i = 0; i < MOST_PLACES; i++) {
            ones.write(i, 1L, 0);
        }
    }

    // ---- rows

    public int row(int row, int kind, int places) {
        if (!isRow(row) || kind < BYTES || kind > DOUBLES || places > MOST_PLACES) {
            return OUTSIDE;
        }
        if (places < 0) {
            return SIZE;
        }
        rows[row].renew(kind, places);
        return places;
    }

    public int lose(int row) {
        if (!isRow(row)) {
            return OUTSIDE;
        }
        Row lost = rows[row];
        if (!lost.there) {
            return NOTHING;
        }
        lost.there = false;
        return lost.places;
    }

    public int put(int row, int place, long m, int e) {
        if (!isRow(row) || m <= -WHOLE_LIMIT || m >= WHOLE_LIMIT || e < DOUBLE_LEAST || e > DOUBLE_GREATEST) {
            return OUTSIDE;
        }
        Row target = rows[row];
        if (!target.there) {
            return NOTHING;
        }
        if (!target.has(place, 1)) {
            return INDEX;
        }
        target.write(place, m, e);
        return 0;
    }

    public int mark(int row, int place, int what) {
        if (!isRow(row) || what < 0 || what > 5) {
            return OUTSIDE;
        }
        Row target = rows[row];
        if (!target.there) {
            return NOTHING;
        }
        if (!target.isFloating()) {
            return CAST;
        }
        if (!target.has(place, 1)) {
            return INDEX;
        }
        target.writeMark(place, what);
        return 0;
    }

    public int copy(int from, int at, int to, int place, int many) {
        if (!isRow(from) || !isRow(to)) {
            return OUTSIDE;
        }
        Row source = rows[from];
        Row target = rows[to];
        if (!source.there || !target.there) {
            return NOTHING;
        }
        if (source.kind != target.kind) {
            return CAST;
        }
        if (many < 0 || !source.has(at, many) || !target.has(place, many)) {
            return INDEX;
        }
        target.writeAll(source, at, place, many);
        return many;
    }

    public long look(int row, int kind, int place) {
        if (!isRow(row) || kind < BYTES || kind > LONGS) {
            return OUTSIDE;
        }
        Row source = rows[row];
        if (!source.there) {
            return NOTHING;
        }
        if (source.kind != kind) {
            return CAST;
        }
        if (!source.has(place, 1)) {
            return INDEX;
        }
        return source.wholes[place];
    }

    public double see(int row, int place) {
        if (!isRow(row)) {
            return 0.0;
        }
        Row source = rows[row];
        if (!source.there || !source.isFloating() || !source.has(place, 1)) {
            return 0.0;
        }
        return source.asDouble(place);
    }

    public int compare(int row, int place, double with) {
        if (!isRow(row)) {
            return OUTSIDE;
        }
        Row source = rows[row];
        if (!source.there) {
            return NOTHING;
        }
        if (!source.has(place, 1)) {
            return INDEX;
        }
        if (source.sortAt(place) == NO_NUMBER) {
            return 0;
        }
        double value = source.asDouble(place);
        if (value < with) {
            return 1;
        }
        if (value == with) {
            return 2;
        }
        // With a double that is no number none of the three comparisons holds.
        return value > with ? 3 : 0;
    }

    // ---- keepers

    public int keeper(int keeper, int kind) {
        if (!isKeeper(keeper) || kind < SUMS || kind > SQUARES) {
            return OUTSIDE;
        }
        remember(keeper);
        keepers[keeper].renew(kind);
        return 0;
    }

    public int add(int keeper, int row, int place, int many) {
        if (!isKeeper(keeper) || !isRow(row) || many < -MOST_PLACES || many > MOST_PLACES) {
            return OUTSIDE;
        }
        Keeper target = keepers[keeper];
        Row source = rows[row];
        if (!target.there || !source.there) {
            return NOTHING;
        }
        if (target.kind == PAIRS) {
            return CAST;
        }
        if (!source.has(place, Math.abs(many))) {
            return INDEX;
        }
        return gatherInto(keeper, source, target.kind == SQUARES ? source : ones, place, many);
    }

    public int pair(int keeper, int row, int other, int place, int many) {
        if (!isKeeper(keeper) || !isRow(row) || !isRow(other) || many < -MOST_PLACES || many > MOST_PLACES) {
            return OUTSIDE;
        }
        Row left = rows[row];
        Row right = rows[other];
        if (!keepers[keeper].there || !left.there || !right.there) {
            return NOTHING;
        }
        if (keepers[keeper].kind == SUMS) {
            return CAST;
        }
        if (!left.has(place, Math.abs(many)) || !right.has(place, Math.abs(many))) {
            return INDEX;
        }
        return gatherInto(keeper, left, right, place, many);
    }

    public int merge(int keeper, int other) {
        if (!isKeeper(keeper) || !isKeeper(other)) {
            return OUTSIDE;
        }
        Keeper target = keepers[keeper];
        Keeper source = keepers[other];
        if (!target.there || !source.there) {
            return NOTHING;
        }
        if ((target.kind == SUMS) != (source.kind == SUMS)) {
            return CAST;
        }
        remember(keeper);
        target.gainAll(source);
        return 0;
    }

    public int clear(int keeper) {
        if (!isKeeper(keeper)) {
            return OUTSIDE;
        }
        Keeper target = keepers[keeper];
        if (!target.there) {
            return NOTHING;
        }
        remember(keeper);
        target.renew(target.kind);
        return 0;
    }

    public int error(int keeper, int row, int place, int many) {
        if (!isKeeper(keeper) || !isRow(row) || many < 0 || many > MOST_PLACES) {
            return OUTSIDE;
        }
        Keeper target = keepers[keeper];
        Row source = rows[row];
        if (!target.there || !source.there) {
            return NOTHING;
        }
        if (target.kind != SUMS) {
            return CAST;
        }
        if (!source.has(place, many)) {
            return INDEX;
        }
        remember(keeper);
        target.renew(SUMS);
        plainSum.writeDouble(0, source.summedPlainly(place, many));
        target.gather(source, ones, place, many, false);
        target.gather(plainSum, ones, 0, 1, true);
        gathered += many;
        return many;
    }

    public double plain(int row, int place, int many) {
        if (!isRow(row) || many < 0 || many > MOST_PLACES) {
            return 0.0;
        }
        Row source = rows[row];
        if (!source.there || !source.has(place, many)) {
            return 0.0;
        }
        return source.summedPlainly(place, many);
    }

    // ---- what is told

    public int sort(int keeper) {
        int finding = findingOf(keeper);
        return finding != 0 ? finding : keepers[keeper].state();
    }

    public int seen(int keeper, int what) {
        if (!isKeeper(keeper) || what < 0 || what > 2) {
            return OUTSIDE;
        }
        Keeper asked = keepers[keeper];
        return asked.there ? asked.met[what] : NOTHING;
    }

    public double tell(int keeper, int way, boolean isFloat) {
        if (findingOf(keeper) != 0 || !isWay(way)) {
            return 0.0;
        }
        return sharedOut(keepers[keeper], 1, way, isFloat);
    }

    public double mean(int keeper, int n, int way) {
        if (findingOf(keeper) != 0 || !isWay(way) || n < 1 || n > MOST_SHARES) {
            return 0.0;
        }
        return sharedOut(keepers[keeper], n, way, false);
    }

    public double length(int keeper, boolean up) {
        if (findingOf(keeper) != 0) {
            return 0.0;
        }
        Keeper asked = keepers[keeper];
        int state = asked.state();
        if (asked.kind == SUMS || state == NO_NUMBER || state == BELOW) {
            return 0.0;
        }
        if (state == ABOVE) {
            return endless();
        }
        if (asked.isBelow()) {
            return 0.0;
        }
        size.load(asked);
        return size.rootRounded(up ? UP : TOWARDS_NOUGHT);
    }

    public int sign(int keeper) {
        int finding = findingOf(keeper);
        if (finding != 0) {
            return finding;
        }
        Keeper asked = keepers[keeper];
        if (asked.isBelow()) {
            return 2;
        }
        return asked.isNought() ? 0 : 1;
    }

    public int high(int keeper) {
        int finding = findingOf(keeper);
        if (finding != 0) {
            return finding + HIGH_FINDINGS;
        }
        size.load(keepers[keeper]);
        int top = size.topBit();
        return top < 0 ? NONE + HIGH_FINDINGS : top + LOWEST;
    }

    public int bit(int keeper, int p) {
        if (!isKeeper(keeper) || p < LOWEST || p > HIGHEST_ASKED) {
            return OUTSIDE;
        }
        Keeper asked = keepers[keeper];
        if (!asked.there) {
            return NOTHING;
        }
        size.load(asked);
        return size.bitAt(p - LOWEST);
    }

    public int order(int keeper, int other) {
        if (!isKeeper(keeper) || !isKeeper(other)) {
            return OUTSIDE;
        }
        Keeper left = keepers[keeper];
        Keeper right = keepers[other];
        if (!left.there || !right.there) {
            return NOTHING;
        }
        int compared = left.comparedWith(right);
        if (compared == 0) {
            return 1;
        }
        return compared < 0 ? 2 : 3;
    }

    public int undo() {
        if (history.kept == 0) {
            return NONE;
        }
        int keeper = history.latestKeeper();
        if (!isKeeper(keeper)) {
            return NONE;
        }
        history.takeBack(keepers[keeper]);
        return keeper;
    }

    public int count(int what) {
        switch (what) {
            case 0:
                return rowsThere();
            case 1:
                return keepersThere(false);
            case 2:
                return history.kept;
            case 3:
                return placesThere();
            case 4:
                return gathered;
            case 5:
                return keepersThere(true);
            default:
                return OUTSIDE;
        }
    }

    // ---- what the calls share

    private static boolean isRow(int row) {
        return row >= 0 && row < ROWS;
    }

    private static boolean isKeeper(int keeper) {
        return keeper >= 0 && keeper < KEEPERS;
    }

    private static boolean isWay(int way) {
        return way >= NEAREST && way <= DOWN;
    }

    private int findingOf(int keeper) {
        if (!isKeeper(keeper)) {
            return OUTSIDE;
        }
        return keepers[keeper].there ? 0 : NOTHING;
    }

    private void remember(int keeper) {
        history.keep(keeper, keepers[keeper]);
    }

    private int gatherInto(int keeper, Row left, Row right, int place, int many) {
        int places = Math.abs(many);
        remember(keeper);
        keepers[keeper].gather(left, right, place, places, many < 0);
        gathered += places;
        return places;
    }

    private double sharedOut(Keeper asked, int n, int way, boolean isFloat) {
        switch (asked.state()) {
            case ABOVE:
                return endless();
            case BELOW:
                return -endless();
            case NO_NUMBER:
                return 0.0;
            default:
                size.load(asked);
                boolean rest = size.divideBy(n);
                return size.rounded(asked.isBelow(), rest, way, isFloat);
        }
    }

    private int rowsThere() {
        int found = 0;
        for (Row each : rows) {
            found += each.there ? 1 : 0;
        }
        return found;
    }

    private int placesThere() {
        int found = 0;
        for (Row each : rows) {
            found += each.there ? each.places : 0;
        }
        return found;
    }

    private int keepersThere(boolean noNumbersAlone) {
        int found = 0;
        for (Keeper each : keepers) {
            if (each.there && (!noNumbersAlone || each.state() == NO_NUMBER)) {
                found++;
            }
        }
        return found;
    }

    // ---- doubles; they are functions since no static field may be a double

    private static double endless() {
        return 1.7976931348623157E308 * 2.0;
    }

    private static double greatest(boolean isFloat) {
        return isFloat ? 3.4028234663852886E38 : 1.7976931348623157E308;
    }

    /** 2 to the power e, for e of -1074 .. 1023: then each product on the way is a double, too. */
    private static double power(int e) {
        double factor = e < 0 ? 0.5 : 2.0;
        double product = 1.0;
        for (int left = Math.abs(e); left > 0; left >>= 1) {
            if ((left & 1) == 1) {
                product *= factor;
            }
            factor *= factor;
        }
        return product;
    }

    // ---- rounding

    private static int bitsIn(long whole) {
        return 64 - Long.numberOfLeadingZeros(whole);
    }

    /**
     * Whether a size of so many whole steps, and half a step more, and something more below that, is
     * rounded to the next step away from 0.
     */
    private static boolean stepsAway(long whole, boolean half, boolean more, boolean below, int way) {
        switch (way) {
            case NEAREST:
                return half && (more || (whole & 1L) == 1L);
            case UP:
                return !below && (half || more);
            case DOWN:
                return below && (half || more);
            default:
                return false;
        }
    }

    /** A size that is already rounded to whole steps of 2 to the power step, as a double. */
    private static double finished(long whole, int step, boolean below, int way, boolean isFloat) {
        if (whole == 0L) {
            return 0.0;
        }
        int limit = isFloat ? FLOAT_GREATEST + FLOAT_BITS : DOUBLE_GREATEST + DOUBLE_BITS;
        double value;
        if (bitsIn(whole) + step > limit) {
            boolean away = way == NEAREST || way == (below ? DOWN : UP);
            value = away ? endless() : greatest(isFloat);
        } else {
            value = (double) whole * power(step);
        }
        return below ? -value : value;
    }

    /** A row; its arrays are made once for all that the row will ever be. */
    private static final class Row {
        boolean there = false;
        int kind = BYTES;
        int places = 0;
        // A number is wholes[i] times 2 to the power powers[i]; beside any other sort the whole is 0.
        final long[] wholes = new long[MOST_PLACES];
        final int[] powers = new int[MOST_PLACES];
        final int[] sorts = new int[MOST_PLACES];

        void renew(int newKind, int newPlaces) {
            there = true;
            kind = newKind;
            places = newPlaces;
            Arrays.fill(wholes, 0L);
            Arrays.fill(powers, 0);
            Arrays.fill(sorts, NUMBER);
        }

        boolean isFloating() {
            return kind == FLOATS || kind == DOUBLES;
        }

        /** Written with a difference, which no int that is not below 0 makes overflow. */
        boolean has(int place, int many) {
            return place >= 0 && place <= places - many;
        }

        int sortAt(int place) {
            return sorts[place] == MINUS_NOUGHT ? NUMBER : sorts[place];
        }

        double asDouble(int place) {
            switch (sorts[place]) {
                case ABOVE:
                    return endless();
                case BELOW:
                    return -endless();
                case MINUS_NOUGHT:
                    return -0.0;
                case NO_NUMBER:
                    return 0.0;
                default:
                    return (double) wholes[place] * power(powers[place]);
            }
        }

        void write(int place, long m, int e) {
            switch (kind) {
                case BYTES:
                    writeNumber(place, (byte) m, 0);
                    break;
                case SHORTS:
                    writeNumber(place, (short) m, 0);
                    break;
                case INTS:
                    writeNumber(place, (int) m, 0);
                    break;
                case LONGS:
                    writeNumber(place, m, 0);
                    break;
                case FLOATS:
                    writeFloat(place, m, e);
                    break;
                default:
                    writeNumber(place, m, e);
                    break;
            }
        }

        void writeMark(int place, int what) {
            boolean isFloat = kind == FLOATS;
            switch (what) {
                case 0:
                    writeSort(place, ABOVE);
                    break;
                case 1:
                    writeSort(place, BELOW);
                    break;
                case 2:
                    writeSort(place, NO_NUMBER);
                    break;
                case 3:
                    writeSort(place, MINUS_NOUGHT);
                    break;
                case 4:
                    long most = (1L << (isFloat ? FLOAT_BITS : DOUBLE_BITS)) - 1L;
                    writeNumber(place, most, isFloat ? FLOAT_GREATEST : DOUBLE_GREATEST);
                    break;
                default:
                    writeNumber(place, 1L, isFloat ? FLOAT_LEAST : DOUBLE_LEAST);
                    break;
            }
        }

        void writeAll(Row source, int at, int place, int many) {
            System.arraycopy(source.wholes, at, wholes, place, many);
            System.arraycopy(source.powers, at, powers, place, many);
            System.arraycopy(source.sorts, at, sorts, place, many);
        }

        void writeDouble(int place, double value) {
            double rest = value < 0.0 ? -value : value;
            if (rest > greatest(false)) {
                writeSort(place, value < 0.0 ? BELOW : ABOVE);
                return;
            }
            if (rest == 0.0) {
                writeNumber(place, 0L, 0);
                return;
            }
            int step = Math.max(topPower(rest) - DOUBLE_BITS + 1, DOUBLE_LEAST);
            long whole = (long) (rest / power(step));
            writeNumber(place, value < 0.0 ? -whole : whole, step);
        }

        /** The sum by doubles; it ends where it would be no number, for that it would stay. */
        double summedPlainly(int place, int many) {
            double sum = 0.0;
            for (int i = place; i < place + many; i++) {
                double next = asDouble(i);
                if (sorts[i] == NO_NUMBER || areOpposedEndless(sum, next)) {
                    return 0.0;
                }
                sum += next;
            }
            return sum;
        }

        private static boolean areOpposedEndless(double one, double other) {
            double most = greatest(false);
            return (one > most && other < -most) || (one < -most && other > most);
        }

        /** The greatest power of two that is not above a size (above 0, not endless). */
        private static int topPower(double rest) {
            int top = DOUBLE_LEAST;
            for (int step = 2048; step > 0; step >>= 1) {
                int next = top + step;
                if (next < DOUBLE_GREATEST + DOUBLE_BITS && rest >= power(next)) {
                    top = next;
                }
            }
            return top;
        }

        private void writeFloat(int place, long m, int e) {
            long whole = Math.abs(m);
            int step = Math.max(e, Math.max(bitsIn(whole) + e - FLOAT_BITS, FLOAT_LEAST));
            long rounded = withoutBits(whole, step - e);
            if (rounded == 0L) {
                writeSort(place, m < 0L ? MINUS_NOUGHT : NUMBER);
            } else if (bitsIn(rounded) + step > FLOAT_GREATEST + FLOAT_BITS) {
                writeSort(place, m < 0L ? BELOW : ABOVE);
            } else {
                writeNumber(place, m < 0L ? -rounded : rounded, step);
            }
        }

        /** A whole of 53 bits at most without its last ones, rounded to the nearest. */
        private static long withoutBits(long whole, int dropped) {
            if (dropped <= 0) {
                return whole;
            }
            if (dropped > DOUBLE_BITS) {
                return 0L;
            }
            long kept = whole >>> dropped;
            boolean half = ((whole >>> (dropped - 1)) & 1L) == 1L;
            boolean more = (whole & ((1L << (dropped - 1)) - 1L)) != 0L;
            return stepsAway(kept, half, more, false, NEAREST) ? kept + 1L : kept;
        }

        private void writeNumber(int place, long whole, int power) {
            wholes[place] = whole;
            powers[place] = power;
            sorts[place] = NUMBER;
        }

        private void writeSort(int place, int sort) {
            wholes[place] = 0L;
            powers[place] = 0;
            sorts[place] = sort;
        }
    }

    /**
     * A keeper. Its sum is that of limbs[i] times 2 to the power 32 i - 2148; between the calls all
     * limbs but the last are 0 .. 2^32 - 1, so that the last alone has the sign.
     */
    private static final class Keeper {
        boolean there = false;
        int kind = SUMS;
        // How many it has seen: 0 no number, ABOVE, BELOW.
        final int[] met = new int[3];
        final long[] limbs = new long[LIMBS];

        void renew(int newKind) {
            there = true;
            kind = newKind;
            Arrays.fill(met, 0);
            Arrays.fill(limbs, 0L);
        }

        void become(Keeper other) {
            there = other.there;
            kind = other.kind;
            System.arraycopy(other.met, 0, met, 0, met.length);
            System.arraycopy(other.limbs, 0, limbs, 0, LIMBS);
        }

        int state() {
            if (met[0] > 0 || (met[ABOVE] > 0 && met[BELOW] > 0)) {
                return NO_NUMBER;
            }
            if (met[ABOVE] > 0) {
                return ABOVE;
            }
            return met[BELOW] > 0 ? BELOW : NUMBER;
        }

        boolean isBelow() {
            return limbs[LIMBS - 1] < 0L;
        }

        boolean isNought() {
            for (long limb : limbs) {
                if (limb != 0L) {
                    return false;
                }
            }
            return true;
        }

        int comparedWith(Keeper other) {
            for (int i = LIMBS - 1; i >= 0; i--) {
                if (limbs[i] != other.limbs[i]) {
                    return limbs[i] < other.limbs[i] ? -1 : 1;
                }
            }
            return 0;
        }

        /** Adds (or takes) the products of two rows, one by one; a number is its product with 1. */
        void gather(Row left, Row right, int place, int many, boolean taken) {
            for (int i = place; i < place + many; i++) {
                int sort = sortOfProduct(left, right, i);
                if (sort == NUMBER) {
                    gain(left.wholes[i], right.wholes[i], left.powers[i] + right.powers[i], taken);
                } else {
                    meet(sort, taken);
                }
            }
            carry();
        }

        void gainAll(Keeper other) {
            for (int i = 0; i < LIMBS; i++) {
                limbs[i] += other.limbs[i];
            }
            carry();
            for (int i = 0; i < met.length; i++) {
                met[i] = Math.min(met[i] + other.met[i], MOST_SEEN);
            }
        }

        private static int sortOfProduct(Row left, Row right, int place) {
            int one = left.sortAt(place);
            int other = right.sortAt(place);
            if (one == NO_NUMBER || other == NO_NUMBER) {
                return NO_NUMBER;
            }
            if (one == NUMBER && other == NUMBER) {
                return NUMBER;
            }
            if ((one == NUMBER && left.wholes[place] == 0L) || (other == NUMBER && right.wholes[place] == 0L)) {
                return NO_NUMBER;
            }
            boolean oneBelow = one == BELOW || left.wholes[place] < 0L;
            boolean otherBelow = other == BELOW || right.wholes[place] < 0L;
            return oneBelow == otherBelow ? ABOVE : BELOW;
        }

        private void meet(int sort, boolean taken) {
            int what = 0;
            if (sort != NO_NUMBER) {
                what = (sort == ABOVE) == taken ? BELOW : ABOVE;
            }
            met[what] = Math.min(met[what] + 1, MOST_SEEN);
        }

        private void gain(long a, long b, int power, boolean taken) {
            long x = Math.abs(a);
            long y = Math.abs(b);
            boolean below = ((a < 0L) != (b < 0L)) != taken;
            int at = power - LOWEST;
            gainPart((x & LIMB_MASK) * (y & LIMB_MASK), at, below);
            gainPart((x & LIMB_MASK) * (y >>> LIMB_BITS), at + LIMB_BITS, below);
            gainPart((x >>> LIMB_BITS) * (y & LIMB_MASK), at + LIMB_BITS, below);
            gainPart((x >>> LIMB_BITS) * (y >>> LIMB_BITS), at + 2 * LIMB_BITS, below);
        }

        /** All 64 bits of the part are its size: two halves may fill them. */
        private void gainPart(long part, int at, boolean below) {
            gainHalf(part & LIMB_MASK, at, below);
            gainHalf(part >>> LIMB_BITS, at + LIMB_BITS, below);
        }

        /** The limbs are left uncarried here: a call's 40 products are far from filling a long. */
        private void gainHalf(long half, int at, boolean below) {
            int limb = at / LIMB_BITS;
            if (half == 0L || at < 0 || limb >= LIMBS - 1) {
                return;
            }
            long moved = half << (at % LIMB_BITS);
            long low = moved & LIMB_MASK;
            long rest = moved >>> LIMB_BITS;
            limbs[limb] += below ? -low : low;
            limbs[limb + 1] += below ? -rest : rest;
        }

        private void carry() {
            long carried = 0L;
            for (int i = 0; i < LIMBS - 1; i++) {
                long full = limbs[i] + carried;
                limbs[i] = full & LIMB_MASK;
                carried = full >> LIMB_BITS;
            }
            limbs[LIMBS - 1] += carried;
        }
    }

    /** The size of an exact sum, in limbs of 32 bits, for what is told of it. */
    private static final class Size {
        final long[] limbs = new long[LIMBS];

        void load(Keeper keeper) {
            boolean below = keeper.isBelow();
            long carried = 0L;
            for (int i = 0; i < LIMBS; i++) {
                long full = (below ? -keeper.limbs[i] : keeper.limbs[i]) + carried;
                limbs[i] = full & LIMB_MASK;
                carried = full >> LIMB_BITS;
            }
        }

        /** Leaves the whole shares; whether something was left over. */
        boolean divideBy(int n) {
            if (n <= 1) {
                return false;
            }
            long rest = 0L;
            for (int i = LIMBS - 1; i >= 0; i--) {
                long full = (rest << LIMB_BITS) | limbs[i];
                limbs[i] = full / n;
                rest = full % n;
            }
            return rest != 0L;
        }

        /** The highest bit's place, from the lowest one on; -1 where there is none. */
        int topBit() {
            for (int i = LIMBS - 1; i >= 0; i--) {
                if (limbs[i] != 0L) {
                    return i * LIMB_BITS + bitsIn(limbs[i]) - 1;
                }
            }
            return -1;
        }

        int bitAt(int at) {
            return (int) ((limbAt(at / LIMB_BITS) >>> (at % LIMB_BITS)) & 1L);
        }

        double rounded(boolean below, boolean rest, int way, boolean isFloat) {
            int top = topBit();
            int least = (isFloat ? FLOAT_LEAST : DOUBLE_LEAST) - LOWEST;
            int step = Math.max(top - (isFloat ? FLOAT_BITS : DOUBLE_BITS) + 1, least);
            long whole = wholeFrom(step);
            boolean half = bitAt(step - 1) == 1;
            boolean more = rest || hasBitBelow(step - 1);
            if (stepsAway(whole, half, more, below, way)) {
                whole++;
            }
            return finished(whole, step + LOWEST, below, way, isFloat);
        }

        /** The square root, found a bit at a time, of no more bits than a double has. */
        double rootRounded(int way) {
            int top = topBit() / 2;
            int last = Math.max(top - DOUBLE_BITS + 1, 0);
            long root = 0L;
            long rest = 0L;
            for (int i = top; i >= last; i--) {
                rest = (rest << 2) | (bitAt(2 * i + 1) << 1) | bitAt(2 * i);
                long needed = (root << 2) | 1L;
                root <<= 1;
                if (rest >= needed) {
                    rest -= needed;
                    root |= 1L;
                }
            }
            boolean more = rest != 0L || hasBitBelow(2 * last);
            if (stepsAway(root, false, more, false, way)) {
                root++;
            }
            return finished(root, last + LOWEST / 2, false, way, false);
        }

        private long limbAt(int i) {
            return i >= 0 && i < LIMBS ? limbs[i] : 0L;
        }

        /** The 64 bits from a place on. */
        private long wholeFrom(int at) {
            int limb = at / LIMB_BITS;
            int moved = at % LIMB_BITS;
            long whole = ((limbAt(limb + 1) << LIMB_BITS) | limbAt(limb)) >>> moved;
            // A shift by 64 would be none in Java.
            return moved == 0 ? whole : whole | (limbAt(limb + 2) << (64 - moved));
        }

        private boolean hasBitBelow(int at) {
            int limb = at / LIMB_BITS;
            for (int i = 0; i < limb && i < LIMBS; i++) {
                if (limbs[i] != 0L) {
                    return true;
                }
            }
            return (limbAt(limb) & ((1L << (at % LIMB_BITS)) - 1L)) != 0L;
        }
    }

    /** The latest changes: for each, the keeper as it was before; the oldest makes room for a new one. */
    private static final class History {
        final Keeper[] before = new Keeper[MOST_KEPT];
        final int[] whose = new int[MOST_KEPT];
        int kept = 0;
        int latest = 0;

        History() {
            for (int i = 0; i < MOST_KEPT; i++) {
                before[i] = new Keeper();
            }
        }

        void keep(int number, Keeper keeper) {
            latest = (latest + 1) % MOST_KEPT;
            before[latest].become(keeper);
            whose[latest] = number;
            kept = Math.min(kept + 1, MOST_KEPT);
        }

        int latestKeeper() {
            return whose[latest];
        }

        void takeBack(Keeper keeper) {
            keeper.become(before[latest]);
            latest = (latest + MOST_KEPT - 1) % MOST_KEPT;
            kept--;
        }
    }
}
