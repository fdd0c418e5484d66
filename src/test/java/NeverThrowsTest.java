// LANGUAGE.md, rule 7: no call may ever throw, for any arguments in any state, also of an object that has had far more
// than the 512 calls for which its answers are promised.
public final class NeverThrowsTest {
    private static final int OBJECTS = 40, CALLS = 4000;
    private static final int LOW = Integer.MIN_VALUE, HIGH = Integer.MAX_VALUE;
    private static final int[] FAR = {-1, 12, 6, 41, 40, -40, -41, LOW, LOW + 1, HIGH, 1000000, 1000001, -2148, -2149,
        2200, 2201, 39, -1074, -1075, 971, 972, 127, 128};
    private static final long[] WHOLES = {0, 1, -1, (1L << 53) - 1, 1 - (1L << 53), 1L << 53, -(1L << 53), Long.MIN_VALUE,
        Long.MAX_VALUE, 1L << 24, (1L << 25) - 1, 3};
    private static final double[] DOUBLES = {0.0, -0.0, 1.0, Double.NaN, Double.POSITIVE_INFINITY,
        Double.NEGATIVE_INFINITY, Double.MAX_VALUE, Double.MIN_VALUE};

    private static long counter = 1442695040888963407L;

    private static int upTo(int limit) {
        counter ^= counter << 13;
        counter ^= counter >>> 7;
        counter ^= counter << 17;
        return (int) Long.remainderUnsigned(counter * 0x9E3779B97F4A7C15L >>> 17, limit);
    }

    // Mostly a small number, that is seldom refused.
    private static int any() {
        return upTo(12) == 0 ? FAR[upTo(FAR.length)] : upTo(4);
    }

    private static int power() {
        return upTo(3) == 0 ? any() : -1074 + upTo(2046);
    }

    private static void changeRows(LongSums x) {
        switch (upTo(8)) {
            case 0: x.row(any(), any() + upTo(3), any() + upTo(20)); break;
            case 1: x.lose(any()); break;
            case 2: x.mark(any(), any(), any() + upTo(3)); break;
            case 3: x.copy(any(), any(), any(), any(), any()); break;
            case 4: x.look(any(), any(), any()); break;
            case 5: x.see(any(), any()); x.compare(any(), any(), DOUBLES[upTo(DOUBLES.length)]); break;
            default: x.put(any(), any(), WHOLES[upTo(WHOLES.length)], power()); break;
        }
    }

    private static void changeKeepers(LongSums x) {
        switch (upTo(9)) {
            case 0: x.keeper(any(), any()); break;
            case 1: x.add(any(), any(), any(), any() - upTo(4)); break;
            case 2: x.pair(any(), any(), any(), any(), any() - upTo(4)); break;
            case 3: x.clear(any()); break;
            case 4: x.error(any(), any(), any(), any()); break;
            case 5: x.plain(any(), any(), any()); break;
            case 6: x.undo(); break;
            default: x.merge(any(), any()); break;
        }
    }

    private static void ask(LongSums x) {
        switch (upTo(10)) {
            case 0: x.sort(any()); break;
            case 1: x.seen(any(), any()); break;
            case 2: x.tell(any(), any(), upTo(2) == 0); break;
            case 3: x.mean(any(), any(), any()); break;
            case 4: x.length(any(), upTo(2) == 0); break;
            case 5: x.sign(any()); break;
            case 6: x.high(any()); break;
            case 7: x.bit(any(), upTo(2) == 0 ? any() : -2148 + upTo(4349)); break;
            case 8: x.order(any(), any()); break;
            default: x.count(any()); break;
        }
    }

    // Sums that are doubled until they have grown far beyond all that 512 calls can make.
    private static void outgrown(int many) {
        LongSums x = new LongSums();
        x.row(0, 5, 40);
        for (int place = 0; place < 40; place++) {
            x.mark(0, place, 4);
        }
        x.keeper(0, 2);
        x.keeper(1, 1);
        for (int i = 0; i < CALLS; i++) {
            x.add(0, 0, 0, many);
            x.merge(0, 0);
            x.merge(1, 0);
            x.order(0, 1);
            x.tell(0, i % 4, i % 2 == 0);
            x.mean(1, 1 + i, i % 4);
            x.length(0, i % 2 == 0);
            x.high(0);
            x.bit(0, 2200);
            x.sign(1);
        }
    }

    public static void main(String[] args) {
        for (int i = 0; i < OBJECTS; i++) {
            LongSums x = new LongSums();
            for (int call = 0; call < CALLS; call++) {
                switch (upTo(3)) {
                    case 0: changeRows(x); break;
                    case 1: changeKeepers(x); break;
                    default: ask(x); break;
                }
            }
        }
        outgrown(40);
        outgrown(-40);
        System.out.println("nothing was thrown");
    }
}
