/**
 * Runs of 512 mixed calls on a store and on the model, with and without stress: each answer must be the
 * same. Some runs play with a few keys, some make objects with many properties, some long chains of
 * prototypes; each ends with calls that only look.
 */
public final class ModelTest {
    private static final int RUNS = 3600;
    private static final int CALLS = 512;
    private static final int LAST_LOOKS = 100;
    private static final long[] FEW_KEYS = {
        0, 1, 2, 3, 4, 5, 6, 7, 100, 4294967293L, 4294967294L, -1, -1, -1, -2, -3, -4, -5, -6, -64,
    };
    private static final long[] WRONG_KEYS = {4294967295L, -65, 1L << 32, Long.MIN_VALUE, Long.MAX_VALUE};
    private static final int[] WRONG_ROOTS = {-1, -2, 24, 99, Integer.MIN_VALUE, Integer.MAX_VALUE};
    private static final double[] NUMBERS = {
        0, 0, 1, 1, 2, 2, 3, 4, 5, 7, 8, 101, 1.5, 0.5, -1, 4294967294.0, 4294967295.0, 4294967296.0,
        4294967295.5, Double.POSITIVE_INFINITY, Double.NEGATIVE_INFINITY, Double.MIN_VALUE, Double.MAX_VALUE,
    };
    private static final long[] ODD_NUMBERS = {
        0x8000000000000000L, 0x7FF8000000000000L, 0x7FF0000000000001L, 0xFFF8000000000000L, 0xFFFFFFFFFFFFFFFFL,
    };

    private static final String[] NAMES = {
        "object", "copy", "same", "operand", "kind", "bits", "hold", "get", "put", "define",
        "own", "setter", "has", "delete", "keys", "key", "lock", "locked", "prototype", "stress",
    };
    /** How often each call comes; locks come seldom, as little happens behind them. */
    private static final int[] MIXED = {6, 3, 2, 12, 6, 5, 3, 8, 15, 14, 8, 2, 2, 4, 2, 3, 1, 2, 1, 1};
    private static final int[] WIDE = {0, 0, 1, 8, 2, 3, 0, 5, 40, 20, 5, 1, 1, 3, 2, 5, 0, 1, 0, 1};
    private static final int[] DEEP = {40, 3, 3, 8, 3, 2, 4, 8, 12, 5, 3, 1, 3, 1, 1, 1, 0, 1, 2, 1};
    private static final int[] LOOKS = {0, 0, 3, 0, 15, 8, 0, 20, 0, 0, 20, 2, 5, 0, 5, 20, 0, 5, 0, 0};

    private static final Check CHECK = new Check("ModelTest");
    private static final long[] SEEN = new long[4];
    private static int mostKeys;
    private static long seed = 20261115L;

    /** What any call may be told; each takes its own part. */
    private record Told(int r, int p, int s, int kind, long bits, long key, int told, int flags, int getter,
            int setter, int k, int how, boolean array) {
    }

    private final Store store = new Real(new PropertyStore());
    private final Model model = new Model();
    private final int[] weights;
    private final int roots;

    private ModelTest(int run) {
        weights = run % 9 == 0 ? WIDE : run % 9 == 1 ? DEEP : MIXED;
        roots = weights == WIDE ? 1 + below(2) : 2 + below(run % 4 == 0 ? 22 : 6);
    }

    public static void main(String[] args) {
        for (int run = 1; run <= RUNS; run++) {
            new ModelTest(run).play(run);
        }
        for (int answer = 0; answer < SEEN.length; answer++) {
            CHECK.due("answer " + answer + " of put or define was seen", SEEN[answer] > 1000, true);
        }
        CHECK.due("objects with many properties were seen", mostKeys > 130, true);
        CHECK.end();
    }

    private static int below(int n) {
        seed = seed * 6364136223846793005L + 1442695040888963407L;
        return (int) ((seed >>> 33) % n);
    }

    private static boolean rarely() {
        return below(60) == 0;
    }

    private void play(int run) {
        if (run % 3 == 0) {
            step(run, 1, 4);
        } else {
            int n = 1 + below(4);
            store.stress(n);
            model.stress(n);
        }
        for (int n = 2; n <= CALLS; n++) {
            step(run, n, n <= 2 + roots / 2 ? 0 : pick(n > CALLS - LAST_LOOKS ? LOOKS : weights));
        }
        for (int r = 0; r < roots; r++) {
            mostKeys = Math.max(mostKeys, model.holds(r) ? model.keys(r) : 0);
        }
    }

    private void step(int run, int n, int which) {
        Told told = told();
        String got = answer(store, which, told);
        String due = answer(model, which, told);
        String call = got.equals(due) ? NAMES[which] : "run " + run + ", call " + n + ": " + NAMES[which] + " of " + told;
        CHECK.due(call, got, due);
        if (which == 8 || which == 9) {
            count(got);
        }
    }

    private static void count(String answer) {
        for (int known = 0; known < SEEN.length; known++) {
            SEEN[known] += answer.equals("" + known) ? 1 : 0;
        }
    }

    private static int pick(int[] weights) {
        int sum = 0;
        for (int weight : weights) {
            sum += weight;
        }
        int n = below(sum);
        int which = 0;
        while (n >= weights[which]) {
            n -= weights[which];
            which++;
        }
        return which;
    }

    private int root() {
        return rarely() ? WRONG_ROOTS[below(WRONG_ROOTS.length)] : below(roots);
    }

    private int rootOrNone() {
        return below(4) == 0 ? -1 : root();
    }

    /** A key, often one that root r's object has. */
    private long key(int r) {
        if (rarely()) {
            return WRONG_KEYS[below(WRONG_KEYS.length)];
        }
        if (model.holds(r) && model.keys(r) > 0 && below(3) == 0) {
            return model.key(r, below(model.keys(r)));
        }
        if (weights == WIDE) {
            return below(5) == 0 ? 4294967294L - below(100) : below(364) - 64;
        }
        return FEW_KEYS[below(FEW_KEYS.length)];
    }

    private Told told() {
        int r = root();
        int kind = rarely() ? new int[] {-1, 6, 9}[below(3)] : below(3) == 0 ? below(6) : 4 + below(2);
        int bits = below(64);
        if ((bits & 3) != 0 && (bits & 12) != 0 && below(10) != 0) {
            bits &= below(3) == 0 ? ~3 : ~12;
        }
        bits = rarely() ? new int[] {-1, 64, 128, Integer.MIN_VALUE}[below(4)] : bits;
        int flags = below(3) == 0 ? below(64) : below(64) | 48;
        int count = model.holds(r) ? model.keys(r) : 0;
        int k = rarely() ? new int[] {-1, count, 9999}[below(3)] : below(count + 1);
        int how = rarely() ? new int[] {-1, 3, 99}[below(3)] : below(8) == 0 ? below(3) : 0;
        return new Told(r, rootOrNone(), root(), kind, operandBits(kind), key(r), bits, flags, rootOrNone(),
                rootOrNone(), k, how, below(3) == 0);
    }

    private long operandBits(int kind) {
        if (kind == 5) {
            return rarely() ? (1L << 32) + below(roots) : root();
        }
        return below(8) == 0 ? ODD_NUMBERS[below(ODD_NUMBERS.length)]
                : Double.doubleToRawLongBits(NUMBERS[below(NUMBERS.length)]);
    }

    private static String answer(Store x, int which, Told t) {
        try {
            return call(x, which, t);
        } catch (IllegalArgumentException | IllegalStateException e) {
            return e.getClass().getSimpleName();
        }
    }

    private static String call(Store x, int which, Told t) {
        switch (which) {
            case 0: x.object(t.r, t.p, t.array); return "";
            case 1: x.copy(t.r, t.p); return "";
            case 2: return "" + x.same(t.r, t.s);
            case 3: x.operand(t.kind, t.bits); return "";
            case 4: return "" + x.kind();
            case 5: return "" + x.bits();
            case 6: x.hold(t.r); return "";
            case 7: return "" + x.get(t.r, t.key);
            case 8: return "" + x.put(t.r, t.key);
            case 9: return "" + x.define(t.r, t.key, t.told, t.flags, t.getter, t.setter);
            case 10: return "" + x.own(t.r, t.key);
            case 11: return "" + x.setter(t.r, t.key, t.s);
            case 12: return "" + x.has(t.r, t.key);
            case 13: return "" + x.delete(t.r, t.key);
            case 14: return "" + x.keys(t.r);
            case 15: return "" + x.key(t.r, t.k);
            case 16: x.lock(t.r, t.how); return "";
            case 17: return "" + x.locked(t.r, t.how);
            case 18: x.prototype(t.r, t.s); return "";
            default: x.stress(t.how); return "";
        }
    }
}
