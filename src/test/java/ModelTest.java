import java.math.BigInteger;

// Runs of up to 512 calls on fresh objects, chosen by a counter, against a second program that keeps
// its sums as BigInteger and rounds by searching among all doubles.
public final class ModelTest {
    private static final int OUTSIDE = -3, NOTHING = -11, CAST = -12, INDEX = -13, SIZE = -14;
    private static final int RUNS = 1200, CALLS = 512;

    // ---- the second program

    // Numbers are held in units of 2^-1074 where they stand in rows, of 2^-2148 in keepers.
    private static final class ModelRow {
        boolean there;
        int kind;
        double[] doubles = new double[0];
        long[] longs = new long[0];

        int places() {
            return kind >= 4 ? doubles.length : longs.length;
        }

        double at(int place) {
            return kind >= 4 ? doubles[place] : (double) longs[place];
        }

        boolean lacks(int place, int many) {
            return place < 0 || (long) place + many > places();
        }
    }

    private static final class ModelKeeper {
        boolean there;
        int kind;
        BigInteger sum = BigInteger.ZERO;
        long[] seen = new long[3];

        ModelKeeper same() {
            ModelKeeper k = new ModelKeeper();
            k.there = there;
            k.kind = kind;
            k.sum = sum;
            k.seen = seen.clone();
            return k;
        }

        int sort() {
            if (seen[0] > 0 || seen[1] > 0 && seen[2] > 0) {
                return 3;
            }
            return seen[1] > 0 ? 1 : seen[2] > 0 ? 2 : 0;
        }

        void see(int what) {
            seen[what] = Math.min(1000000000L, seen[what] + 1);
        }

        void take(double a, double b, int times) {
            double product = a * b * times;
            if (Double.isNaN(a) || Double.isNaN(b)) {
                see(0);
            } else if (Double.isInfinite(a) || Double.isInfinite(b)) {
                see(Double.isNaN(product) ? 0 : product > 0 ? 1 : 2);
            } else {
                sum = sum.add(units(a).multiply(units(b)).multiply(BigInteger.valueOf(times)));
            }
        }
    }

    private static final class ModelChange {
        final int whose;
        final ModelKeeper before;

        ModelChange(int whose, ModelKeeper before) {
            this.whose = whose;
            this.before = before;
        }
    }

    private static final class Model {
        final ModelRow[] rows = new ModelRow[12];
        final ModelKeeper[] keepers = new ModelKeeper[6];
        final java.util.ArrayDeque<ModelChange> changes = new java.util.ArrayDeque<>();
        int counted;

        Model() {
            for (int i = 0; i < 12; i++) {
                rows[i] = new ModelRow();
            }
            for (int i = 0; i < 6; i++) {
                keepers[i] = new ModelKeeper();
            }
        }

        ModelKeeper change(int keeper) {
            changes.addLast(new ModelChange(keeper, keepers[keeper].same()));
            if (changes.size() > 12) {
                changes.removeFirst();
            }
            return keepers[keeper];
        }

        ModelKeeper renew(int keeper, int kind) {
            change(keeper);
            keepers[keeper] = new ModelKeeper();
            keepers[keeper].there = true;
            keepers[keeper].kind = kind;
            return keepers[keeper];
        }

        static boolean noRow(int row) {
            return row < 0 || row > 11;
        }

        static boolean noKeeper(int keeper) {
            return keeper < 0 || keeper > 5;
        }

        int row(int row, int kind, int places) {
            if (noRow(row) || kind < 0 || kind > 5 || places > 40) {
                return OUTSIDE;
            }
            if (places < 0) {
                return SIZE;
            }
            rows[row] = new ModelRow();
            rows[row].there = true;
            rows[row].kind = kind;
            rows[row].doubles = new double[kind >= 4 ? places : 0];
            rows[row].longs = new long[kind >= 4 ? 0 : places];
            return places;
        }

        int lose(int row) {
            if (noRow(row)) {
                return OUTSIDE;
            }
            int had = rows[row].there ? rows[row].places() : NOTHING;
            rows[row] = new ModelRow();
            return had;
        }

        int put(int row, int place, long m, int e) {
            if (noRow(row) || Math.abs((double) m) >= 0x1p53 || e < -1074 || e > 971) {
                return OUTSIDE;
            }
            ModelRow r = rows[row];
            if (!r.there || r.lacks(place, 1)) {
                return r.there ? INDEX : NOTHING;
            }
            double exact = m * Math.scalb(1.0, e);
            switch (r.kind) {
                case 0: r.longs[place] = (byte) m; break;
                case 1: r.longs[place] = (short) m; break;
                case 2: r.longs[place] = (int) m; break;
                case 3: r.longs[place] = m; break;
                case 4: r.doubles[place] = (float) exact; break;
                default: r.doubles[place] = exact; break;
            }
            return 0;
        }

        int mark(int row, int place, int what) {
            if (noRow(row) || what < 0 || what > 5) {
                return OUTSIDE;
            }
            ModelRow r = rows[row];
            if (!r.there || r.kind < 4 || r.lacks(place, 1)) {
                return !r.there ? NOTHING : r.kind < 4 ? CAST : INDEX;
            }
            boolean isFloat = r.kind == 4;
            double[] marks = {Double.POSITIVE_INFINITY, Double.NEGATIVE_INFINITY, Double.NaN, -0.0,
                isFloat ? Float.MAX_VALUE : Double.MAX_VALUE, isFloat ? Float.MIN_VALUE : Double.MIN_VALUE};
            r.doubles[place] = marks[what];
            return 0;
        }

        int copy(int from, int at, int to, int place, int many) {
            if (noRow(from) || noRow(to)) {
                return OUTSIDE;
            }
            ModelRow source = rows[from];
            ModelRow target = rows[to];
            if (!source.there || !target.there) {
                return NOTHING;
            }
            if (source.kind != target.kind) {
                return CAST;
            }
            if (many < 0 || source.lacks(at, many) || target.lacks(place, many)) {
                return INDEX;
            }
            double[] doubles = source.doubles.clone();
            long[] longs = source.longs.clone();
            for (int i = 0; i < many; i++) {
                if (source.kind >= 4) {
                    target.doubles[place + i] = doubles[at + i];
                } else {
                    target.longs[place + i] = longs[at + i];
                }
            }
            return many;
        }

        long look(int row, int kind, int place) {
            if (noRow(row) || kind < 0 || kind > 3) {
                return OUTSIDE;
            }
            ModelRow r = rows[row];
            if (!r.there || r.kind != kind) {
                return r.there ? CAST : NOTHING;
            }
            return r.lacks(place, 1) ? INDEX : r.longs[place];
        }

        double see(int row, int place) {
            if (noRow(row) || !rows[row].there || rows[row].kind < 4 || rows[row].lacks(place, 1)) {
                return 0.0;
            }
            double d = rows[row].doubles[place];
            return Double.isNaN(d) ? 0.0 : d;
        }

        int compare(int row, int place, double with) {
            if (noRow(row)) {
                return OUTSIDE;
            }
            ModelRow r = rows[row];
            if (!r.there || r.lacks(place, 1)) {
                return r.there ? INDEX : NOTHING;
            }
            double d = r.at(place);
            return d < with ? 1 : d == with ? 2 : d > with ? 3 : 0;
        }

        int keeper(int keeper, int kind) {
            if (noKeeper(keeper) || kind < 0 || kind > 2) {
                return OUTSIDE;
            }
            renew(keeper, kind);
            return 0;
        }

        int add(int keeper, int row, int place, int many) {
            if (noKeeper(keeper) || noRow(row) || many < -40 || many > 40) {
                return OUTSIDE;
            }
            if (!keepers[keeper].there || !rows[row].there) {
                return NOTHING;
            }
            if (keepers[keeper].kind == 1) {
                return CAST;
            }
            return gather(keeper, row, keepers[keeper].kind == 2 ? row : -1, place, many);
        }

        int pair(int keeper, int row, int other, int place, int many) {
            if (noKeeper(keeper) || noRow(row) || noRow(other) || many < -40 || many > 40) {
                return OUTSIDE;
            }
            if (!keepers[keeper].there || !rows[row].there || !rows[other].there) {
                return NOTHING;
            }
            if (keepers[keeper].kind == 0) {
                return CAST;
            }
            return gather(keeper, row, other, place, many);
        }

        private int gather(int keeper, int row, int other, int place, int many) {
            int size = Math.abs(many);
            if (rows[row].lacks(place, size) || other >= 0 && rows[other].lacks(place, size)) {
                return INDEX;
            }
            ModelKeeper k = change(keeper);
            for (int i = place; i < place + size; i++) {
                k.take(rows[row].at(i), other < 0 ? 1.0 : rows[other].at(i), many < 0 ? -1 : 1);
            }
            counted += size;
            return size;
        }

        int merge(int keeper, int other) {
            if (noKeeper(keeper) || noKeeper(other)) {
                return OUTSIDE;
            }
            if (!keepers[keeper].there || !keepers[other].there) {
                return NOTHING;
            }
            if (keepers[keeper].kind == 0 != (keepers[other].kind == 0)) {
                return CAST;
            }
            ModelKeeper source = keepers[other].same();
            ModelKeeper k = change(keeper);
            k.sum = k.sum.add(source.sum);
            for (int i = 0; i < 3; i++) {
                k.seen[i] = Math.min(1000000000L, k.seen[i] + source.seen[i]);
            }
            return 0;
        }

        int clear(int keeper) {
            if (noKeeper(keeper) || !keepers[keeper].there) {
                return noKeeper(keeper) ? OUTSIDE : NOTHING;
            }
            renew(keeper, keepers[keeper].kind);
            return 0;
        }

        int error(int keeper, int row, int place, int many) {
            if (noKeeper(keeper) || noRow(row) || many < 0 || many > 40) {
                return OUTSIDE;
            }
            if (!keepers[keeper].there || !rows[row].there) {
                return NOTHING;
            }
            if (keepers[keeper].kind != 0 || rows[row].lacks(place, many)) {
                return keepers[keeper].kind != 0 ? CAST : INDEX;
            }
            ModelKeeper k = renew(keeper, 0);
            for (int i = place; i < place + many; i++) {
                k.take(rows[row].at(i), 1.0, 1);
            }
            k.take(plain(row, place, many), 1.0, -1);
            counted += many;
            return many;
        }

        double plain(int row, int place, int many) {
            if (noRow(row) || many < 0 || many > 40 || !rows[row].there || rows[row].lacks(place, many)) {
                return 0.0;
            }
            double sum = 0.0;
            for (int i = place; i < place + many; i++) {
                sum += rows[row].at(i);
            }
            return Double.isNaN(sum) ? 0.0 : sum;
        }

        int finding(int keeper) {
            return noKeeper(keeper) ? OUTSIDE : keepers[keeper].there ? 0 : NOTHING;
        }

        int sort(int keeper) {
            return finding(keeper) != 0 ? finding(keeper) : keepers[keeper].sort();
        }

        long seen(int keeper, int what) {
            if (what < 0 || what > 2) {
                return OUTSIDE;
            }
            return finding(keeper) != 0 ? finding(keeper) : keepers[keeper].seen[what];
        }

        double mean(int keeper, int n, int way, boolean isFloat) {
            if (finding(keeper) != 0 || way < 0 || way > 3 || n < 1 || n > 1000000) {
                return 0.0;
            }
            ModelKeeper k = keepers[keeper];
            switch (k.sort()) {
                case 1: return Double.POSITIVE_INFINITY;
                case 2: return Double.NEGATIVE_INFINITY;
                case 3: return 0.0;
                default: return rounded(k.sum, BigInteger.valueOf(n), way, isFloat);
            }
        }

        double length(int keeper, boolean up) {
            if (finding(keeper) != 0 || keepers[keeper].kind == 0 || keepers[keeper].sort() > 1) {
                return 0.0;
            }
            ModelKeeper k = keepers[keeper];
            if (k.sort() == 1) {
                return Double.POSITIVE_INFINITY;
            }
            if (k.sum.signum() < 0) {
                return 0.0;
            }
            long low = 0;
            long high = Double.doubleToLongBits(Double.POSITIVE_INFINITY);
            while (high - low > 1) {
                long middle = (low + high) >>> 1;
                BigInteger size = units(Double.longBitsToDouble(middle));
                if (size.multiply(size).compareTo(k.sum) <= 0) {
                    low = middle;
                } else {
                    high = middle;
                }
            }
            BigInteger size = units(Double.longBitsToDouble(low));
            boolean same = size.multiply(size).equals(k.sum);
            return Double.longBitsToDouble(up && !same ? high : low);
        }

        int sign(int keeper) {
            if (finding(keeper) != 0) {
                return finding(keeper);
            }
            int sign = keepers[keeper].sum.signum();
            return sign < 0 ? 2 : sign;
        }

        int high(int keeper) {
            if (finding(keeper) != 0) {
                return finding(keeper) - 9999;
            }
            BigInteger size = keepers[keeper].sum.abs();
            return size.signum() == 0 ? -10000 : size.bitLength() - 1 - 2148;
        }

        int bit(int keeper, int p) {
            if (p < -2148 || p > 2200) {
                return OUTSIDE;
            }
            if (finding(keeper) != 0) {
                return finding(keeper);
            }
            return keepers[keeper].sum.abs().testBit(p + 2148) ? 1 : 0;
        }

        int order(int keeper, int other) {
            if (noKeeper(keeper) || noKeeper(other)) {
                return OUTSIDE;
            }
            if (!keepers[keeper].there || !keepers[other].there) {
                return NOTHING;
            }
            int compared = keepers[keeper].sum.compareTo(keepers[other].sum);
            return compared == 0 ? 1 : compared < 0 ? 2 : 3;
        }

        int undo() {
            if (changes.isEmpty()) {
                return -1;
            }
            ModelChange change = changes.removeLast();
            keepers[change.whose] = change.before;
            return change.whose;
        }

        int count(int what) {
            int rowsThere = 0;
            int places = 0;
            for (ModelRow r : rows) {
                rowsThere += r.there ? 1 : 0;
                places += r.there ? r.places() : 0;
            }
            int keepersThere = 0;
            int noNumbers = 0;
            for (ModelKeeper k : keepers) {
                keepersThere += k.there ? 1 : 0;
                noNumbers += k.there && k.sort() == 3 ? 1 : 0;
            }
            int[] counts = {rowsThere, keepersThere, changes.size(), places, counted, noNumbers};
            return what < 0 || what > 5 ? OUTSIDE : counts[what];
        }
    }

    // A finite double in units of 2^-1074.
    private static BigInteger units(double d) {
        long bits = Double.doubleToLongBits(d);
        int power = (int) (bits >>> 52) & 2047;
        long whole = bits & ((1L << 52) - 1);
        BigInteger size = power == 0 ? BigInteger.valueOf(whole)
            : BigInteger.valueOf(whole | (1L << 52)).shiftLeft(power - 1);
        return bits < 0 ? size.negate() : size;
    }

    private static double ofIndex(long index, boolean isFloat) {
        return isFloat ? (double) Float.intBitsToFloat((int) index) : Double.longBitsToDouble(index);
    }

    // sum (in units of 2^-2148) divided by n: the doubles (floats) around its size are searched.
    private static double rounded(BigInteger sum, BigInteger n, int way, boolean isFloat) {
        BigInteger size = sum.abs();
        boolean below = sum.signum() < 0;
        long endless = isFloat ? Float.floatToIntBits(Float.POSITIVE_INFINITY)
            : Double.doubleToLongBits(Double.POSITIVE_INFINITY);
        long low = 0;
        long high = endless;
        while (high - low > 1) {
            long middle = (low + high) >>> 1;
            if (inSum(middle, isFloat).multiply(n).compareTo(size) <= 0) {
                low = middle;
            } else {
                high = middle;
            }
        }
        BigInteger lower = inSum(low, isFloat).multiply(n);
        BigInteger upper = high == endless ? inSum(low, isFloat).shiftLeft(1).subtract(inSum(low - 1, isFloat)).multiply(n)
            : inSum(high, isFloat).multiply(n);
        boolean away = false;
        if (!lower.equals(size)) {
            int half = size.subtract(lower).compareTo(upper.subtract(size));
            away = way == 0 && (half > 0 || half == 0 && (low & 1) == 1) || way == 2 && !below || way == 3 && below;
        }
        double found = ofIndex(away ? high : low, isFloat);
        return below && found != 0.0 ? -found : found;
    }

    private static BigInteger inSum(long index, boolean isFloat) {
        return units(ofIndex(index, isFloat)).shiftLeft(1074);
    }

    // ---- the runs

    private static long counter = 88172645463325252L;

    private static int upTo(int limit) {
        counter ^= counter << 13;
        counter ^= counter >>> 7;
        counter ^= counter << 17;
        return (int) Long.remainderUnsigned(counter * 0x9E3779B97F4A7C15L >>> 17, limit);
    }

    // Mostly one of 0 .. limit - 1, of few, and now and then one that is far out.
    private static int number(int limit) {
        int[] far = {-1, limit, limit + 1, -2, Integer.MIN_VALUE, Integer.MAX_VALUE, 100};
        return upTo(40) == 0 ? far[upTo(far.length)] : upTo(upTo(3) == 0 ? limit : Math.min(limit, 3));
    }

    private static int places() {
        int[] far = {-1, 41, Integer.MIN_VALUE, Integer.MAX_VALUE};
        return upTo(30) == 0 ? far[upTo(far.length)] : upTo(3) == 0 ? upTo(41) : 2 + upTo(6);
    }

    private static int place() {
        int[] far = {-1, 40, 41, Integer.MIN_VALUE, Integer.MAX_VALUE};
        return upTo(40) == 0 ? far[upTo(far.length)] : upTo(3) == 0 ? upTo(7) : upTo(2);
    }

    private static int many(boolean below) {
        int[] far = {-1, 41, -41, 40, -40, Integer.MIN_VALUE, Integer.MAX_VALUE, 12};
        int near = upTo(30) == 0 ? far[upTo(far.length)] : upTo(5);
        return below && upTo(3) == 0 ? -near : near;
    }

    private static long whole() {
        long limit = 1L << 53;
        long[] far = {limit, -limit, Long.MIN_VALUE, Long.MAX_VALUE, limit - 1, 1 - limit};
        if (upTo(25) == 0) {
            return far[upTo(far.length)];
        }
        long full = ((long) upTo(1 << 27) << 26) | upTo(1 << 26);
        long whole = upTo(5) == 0 ? (1L << upTo(53)) - upTo(2) : full >>> upTo(53);
        return upTo(2) == 0 ? -whole : whole;
    }

    // A run keeps to a part of the powers, so that its numbers come near one another.
    private static int power(int part) {
        int[] far = {-1075, 972, Integer.MIN_VALUE, Integer.MAX_VALUE, -1074, 971};
        if (upTo(30) == 0) {
            return far[upTo(far.length)];
        }
        switch (part) {
            case 0: return -1074 + upTo(2046);
            case 1: return -1074 + upTo(8);
            case 2: return 971 - upTo(8);
            case 3: return -204 + upTo(60);
            case 4: return 104 - upTo(80);
            case 5: return -3 + upTo(6);
            default: return -60 + upTo(120);
        }
    }

    private static int wrong = 0;
    private static StringBuilder calls = new StringBuilder();

    private static void same(int run, double got, double want) {
        if (Double.doubleToLongBits(got) != Double.doubleToLongBits(want)) {
            wrong++;
            if (wrong <= 5) {
                System.out.println("run " + run + ": the last of these answered " + got + ", due is " + want + "\n" + calls);
            }
        }
    }

    private static void say(String call, Object... arguments) {
        calls.append(' ').append(call).append(java.util.Arrays.toString(arguments));
    }

    private static void rowCall(int run, int part, int kinds, LongSums x, Model m) {
        int a = number(12);
        int b = number(12);
        int p = place();
        switch (upTo(9)) {
            case 0: {
                int kind = upTo(3) == 0 ? number(6) : kinds;
                int places = places();
                say("row", a, kind, places);
                same(run, x.row(a, kind, places), m.row(a, kind, places));
                break;
            }
            case 1:
                if (upTo(6) == 0) {
                    say("lose", a);
                    same(run, x.lose(a), m.lose(a));
                }
                break;
            case 2: {
                int what = upTo(3) == 0 ? number(6) : 3 + upTo(3);
                say("mark", a, p, what);
                same(run, x.mark(a, p, what), m.mark(a, p, what));
                break;
            }
            case 3: {
                int at = place();
                int many = many(false);
                say("copy", a, at, b, p, many);
                same(run, x.copy(a, at, b, p, many), m.copy(a, at, b, p, many));
                break;
            }
            case 4: {
                int kind = upTo(2) == 0 ? number(4) : kinds;
                say("look", a, kind, p);
                same(run, x.look(a, kind, p), m.look(a, kind, p));
                break;
            }
            case 5: {
                double[] with = {0.0, -0.0, 1.0, Double.NaN, Double.POSITIVE_INFINITY, Double.MAX_VALUE, m.see(a, p)};
                double w = with[upTo(with.length)];
                say("compare", a, p, w);
                same(run, x.compare(a, p, w), m.compare(a, p, w));
                break;
            }
            default: {
                long whole = whole();
                int power = power(part);
                say("put", a, p, whole, power);
                same(run, x.put(a, p, whole, power), m.put(a, p, whole, power));
                say("see", a, p);
                same(run, x.see(a, p), m.see(a, p));
                break;
            }
        }
    }

    private static void keeperCall(int run, LongSums x, Model m) {
        int k = number(6);
        int row = number(12);
        int other = number(12);
        int p = place();
        switch (upTo(10)) {
            case 0: {
                int kind = number(3);
                say("keeper", k, kind);
                same(run, x.keeper(k, kind), m.keeper(k, kind));
                break;
            }
            case 1:
            case 2: {
                int many = many(true);
                say("add", k, row, p, many);
                same(run, x.add(k, row, p, many), m.add(k, row, p, many));
                break;
            }
            case 3:
            case 4: {
                int many = many(true);
                say("pair", k, row, other, p, many);
                same(run, x.pair(k, row, other, p, many), m.pair(k, row, other, p, many));
                break;
            }
            case 5: {
                int from = number(6);
                say("merge", k, from);
                same(run, x.merge(k, from), m.merge(k, from));
                break;
            }
            case 6:
                say("clear", k);
                same(run, x.clear(k), m.clear(k));
                break;
            case 7: {
                int many = many(false);
                say("error", k, row, p, many);
                same(run, x.error(k, row, p, many), m.error(k, row, p, many));
                break;
            }
            case 8: {
                int many = many(false);
                say("plain", row, p, many);
                same(run, x.plain(row, p, many), m.plain(row, p, many));
                break;
            }
            default:
                say("undo");
                same(run, x.undo(), m.undo());
                break;
        }
    }

    private static void toldCall(int run, LongSums x, Model m) {
        int k = number(6);
        int way = number(4);
        switch (upTo(9)) {
            case 0:
                say("sort", k);
                same(run, x.sort(k), m.sort(k));
                break;
            case 1: {
                int what = number(3);
                say("seen", k, what);
                same(run, x.seen(k, what), m.seen(k, what));
                break;
            }
            case 2: {
                int n = upTo(3) == 0 ? number(1000001) : 1 + upTo(9);
                say("mean", k, n, way);
                same(run, x.mean(k, n, way), m.mean(k, n, way, false));
                break;
            }
            case 3: {
                boolean up = upTo(2) == 0;
                say("length", k, up);
                same(run, x.length(k, up), m.length(k, up));
                break;
            }
            case 4:
                say("sign, high", k);
                same(run, x.sign(k), m.sign(k));
                same(run, x.high(k), m.high(k));
                break;
            case 5: {
                int high = m.high(k);
                int p = upTo(2) == 0 ? high - upTo(70) : -2150 + upTo(4354);
                say("bit", k, p);
                same(run, x.bit(k, p), m.finding(k) == OUTSIDE ? OUTSIDE : m.bit(k, p));
                break;
            }
            case 6: {
                int other = number(6);
                say("order", k, other);
                same(run, x.order(k, other), m.order(k, other));
                break;
            }
            case 7: {
                int what = number(6);
                say("count", what);
                same(run, x.count(what), m.count(what));
                break;
            }
            default: {
                boolean isFloat = upTo(2) == 0;
                say("tell", k, way, isFloat);
                same(run, x.tell(k, way, isFloat), m.mean(k, 1, way, isFloat));
                break;
            }
        }
    }

    private static void everything(int run, LongSums x, Model m) {
        for (int k = 0; k < 6; k++) {
            say("all that is told of", k);
            for (int way = 0; way < 4; way++) {
                same(run, x.tell(k, way, false), m.mean(k, 1, way, false));
                same(run, x.tell(k, way, true), m.mean(k, 1, way, true));
                same(run, x.mean(k, 3, way), m.mean(k, 3, way, false));
            }
            same(run, x.length(k, false), m.length(k, false));
            same(run, x.length(k, true), m.length(k, true));
            same(run, x.high(k), m.high(k));
            same(run, x.sign(k), m.sign(k));
        }
        for (int what = 0; what < 6; what++) {
            say("count", what);
            same(run, x.count(what), m.count(what));
        }
    }

    // A third of the runs makes its rows and keepers first, so that later calls find them.
    private static void start(int run, int kinds, LongSums x, Model m) {
        for (int row = 0; row < 3; row++) {
            say("row", row, kinds, 7);
            same(run, x.row(row, kinds, 7), m.row(row, kinds, 7));
            say("keeper", row, row);
            same(run, x.keeper(row, row), m.keeper(row, row));
        }
    }

    private static void oneRun(int run) {
        LongSums x = new LongSums();
        Model m = new Model();
        calls = new StringBuilder();
        int part = upTo(7);
        int kinds = upTo(3) == 0 ? upTo(6) : 4 + upTo(2);
        if (run % 3 != 0) {
            start(run, kinds, x, m);
        }
        // Each step makes up to two calls, and everything() at the end about a hundred.
        for (int i = 0; i < CALLS - 200 && wrong == 0; i++) {
            int which = upTo(8);
            if (which < 3) {
                rowCall(run, part, kinds, x, m);
            } else if (which < 5) {
                keeperCall(run, x, m);
            } else {
                toldCall(run, x, m);
            }
        }
        everything(run, x, m);
    }

    // Sums that grow as far as 512 calls can make them.
    private static void farRun(int run, boolean taken) {
        LongSums x = new LongSums();
        Model m = new Model();
        calls = new StringBuilder("far");
        same(run, x.row(0, 5, 40), m.row(0, 5, 40));
        for (int place = 0; place < 40; place++) {
            same(run, x.mark(0, place, 4), m.mark(0, place, 4));
        }
        same(run, x.keeper(0, 2), m.keeper(0, 2));
        same(run, x.add(0, 0, 0, taken ? -40 : 40), m.add(0, 0, 0, taken ? -40 : 40));
        for (int i = 0; i < CALLS - 150; i++) {
            same(run, x.merge(0, 0), m.merge(0, 0));
        }
        same(run, x.bit(0, 2200), m.bit(0, 2200));
        everything(run, x, m);
    }

    public static void main(String[] args) {
        for (int run = 1; run <= RUNS && wrong == 0; run++) {
            oneRun(run);
        }
        farRun(RUNS + 1, false);
        farRun(RUNS + 2, true);
        System.out.println(wrong == 0 ? "all answers are as due" : wrong + " answers are not as due");
        if (wrong != 0) {
            System.exit(1);
        }
    }
}
