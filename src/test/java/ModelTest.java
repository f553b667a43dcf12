/** Long runs of mixed calls on a store and on the model: each answer must be the same. */
public final class ModelTest {
    private static final int RUNS = 4000;
    private static final int CALLS = 512;
    private static final long[] KEYS = {
        0, 1, 2, 3, 4, 5, 6, 7, 100, 4294967293L, 4294967294L, -1, -1, -1, -2, -3, -4, -5, -6, -64,
    };
    private static final long[] WRONG_KEYS = {4294967295L, -65, 1L << 32, Long.MIN_VALUE, Long.MAX_VALUE};
    private static final double[] NUMBERS = {
        0, 0, 1, 1, 2, 2, 3, 4, 5, 7, 8, 101, 1.5, 0.5, -1, 4294967294.0, 4294967295.0, 4294967296.0,
        4294967295.5, Double.POSITIVE_INFINITY, Double.NEGATIVE_INFINITY, Double.MIN_VALUE, Double.MAX_VALUE,
    };
    private static final long[] ODD_NUMBERS = {
        0x8000000000000000L, 0x7FF8000000000000L, 0x7FF0000000000001L, 0xFFF8000000000000L, 0xFFFFFFFFFFFFFFFFL,
    };

    private static final Check CHECK = new Check("ModelTest");
    private static final long[] SEEN = new long[8];
    private static long seed = 20261115L;

    private PropertyStore store = new PropertyStore();
    private Model model = new Model();
    private int roots;
    private String call;

    public static void main(String[] args) {
        for (int run = 1; run <= RUNS; run++) {
            new ModelTest().play(run);
        }
        for (int answer = 0; answer < 4; answer++) {
            CHECK.due("answer " + answer + " of put or define was seen", SEEN[answer] > 1000, true);
        }
        CHECK.end();
    }

    private static int below(int n) {
        seed = seed * 6364136223846793005L + 1442695040888963407L;
        return (int) ((seed >>> 33) % n);
    }

    private static boolean rarely() {
        return below(60) == 0;
    }

    private void play(int run) {
        roots = 2 + below(run % 4 == 0 ? 22 : 6);
        if (run % 3 != 0) {
            int n = 1 + below(4);
            store.stress(n);
            model.stress(n);
        }
        for (int n = 1; n < CALLS; n++) {
            step(run, n);
        }
    }

    private void step(int run, int n) {
        long[] args = arguments();
        int which = n <= roots / 2 ? 0 : pick();
        String got = answer(which, args, true);
        String due = answer(which, args, false);
        CHECK.due("run " + run + ", call " + n + ": " + call, got, due);
    }

    /** Calls that change or show much come more often; locks seldom, as little happens behind them. */
    private static int pick() {
        int n = below(100);
        int[] upTo = {6, 9, 11, 23, 29, 34, 37, 45, 60, 74, 82, 84, 86, 90, 92, 95, 96, 98, 99, 100};
        for (int which = 0; which < upTo.length; which++) {
            if (n < upTo[which]) {
                return which;
            }
        }
        return 0;
    }

    private int root() {
        return rarely() ? new int[] {-1, -2, 24, 99, Integer.MIN_VALUE, Integer.MAX_VALUE}[below(6)] : below(roots);
    }

    private int rootOrNone() {
        return below(4) == 0 ? -1 : root();
    }

    private long[] arguments() {
        int kind = rarely() ? new int[] {-1, 6, 9}[below(3)] : below(3) == 0 ? below(6) : 4 + below(2);
        long number = below(8) == 0 ? ODD_NUMBERS[below(ODD_NUMBERS.length)]
                : Double.doubleToRawLongBits(NUMBERS[below(NUMBERS.length)]);
        long bits = kind == 5 ? rarely() ? (1L << 32) + below(roots) : root() : number;
        long key = rarely() ? WRONG_KEYS[below(WRONG_KEYS.length)] : KEYS[below(KEYS.length)];
        int told = below(64);
        if ((told & 3) != 0 && (told & 12) != 0 && below(10) != 0) {
            told &= below(3) == 0 ? ~3 : ~12;
        }
        told = rarely() ? new int[] {-1, 64, 128, Integer.MIN_VALUE}[below(4)] : told;
        int flags = below(3) == 0 ? below(64) : below(64) | 48;
        int small = rarely() ? new int[] {-1, 3, 99}[below(3)] : below(12);
        return new long[] {root(), rootOrNone(), root(), kind, bits, key, told, flags, rootOrNone(), rootOrNone(),
            small, below(8) == 0 ? 0 : below(3), below(3)};
    }

    private String answer(int which, long[] a, boolean real) {
        try {
            return real ? onStore(which, a) : onModel(which, a);
        } catch (IllegalArgumentException | IllegalStateException e) {
            return e.getClass().getSimpleName();
        }
    }

    private String onStore(int which, long[] a) {
        PropertyStore x = store;
        int r = (int) a[0];
        int p = (int) a[1];
        int s = (int) a[2];
        long key = a[5];
        int small = (int) a[10];
        int how = small > 2 ? (int) a[11] : small;
        switch (which) {
            case 0: call = "object(" + r + ", " + p + ", " + (a[12] == 0) + ")"; x.object(r, p, a[12] == 0); return "";
            case 1: call = "copy(" + r + ", " + p + ")"; x.copy(r, p); return "";
            case 2: call = "same(" + r + ", " + s + ")"; return "" + x.same(r, s);
            case 3: call = "operand(" + a[3] + ", " + a[4] + ")"; x.operand((int) a[3], a[4]); return "";
            case 4: call = "kind()"; return "" + x.kind();
            case 5: call = "bits()"; return "" + x.bits();
            case 6: call = "hold(" + r + ")"; x.hold(r); return "";
            case 7: call = "get(" + r + ", " + key + ")"; return "" + x.get(r, key);
            case 8: call = "put(" + r + ", " + key + ")"; return seen(x.put(r, key));
            case 9:
                call = "define(" + r + ", " + key + ", " + a[6] + ", " + a[7] + ", " + a[8] + ", " + a[9] + ")";
                return seen(x.define(r, key, (int) a[6], (int) a[7], (int) a[8], (int) a[9]));
            case 10: call = "own(" + r + ", " + key + ")"; return "" + x.own(r, key);
            case 11: call = "setter(" + r + ", " + key + ", " + s + ")"; return "" + x.setter(r, key, s);
            case 12: call = "has(" + r + ", " + key + ")"; return "" + x.has(r, key);
            case 13: call = "delete(" + r + ", " + key + ")"; return "" + x.delete(r, key);
            case 14: call = "keys(" + r + ")"; return "" + x.keys(r);
            case 15: call = "key(" + r + ", " + small + ")"; return "" + x.key(r, small);
            case 16: call = "lock(" + r + ", " + how + ")"; x.lock(r, how); return "";
            case 17: call = "locked(" + r + ", " + how + ")"; return "" + x.locked(r, how);
            case 18: call = "prototype(" + r + ", " + s + ")"; x.prototype(r, s); return "";
            default: call = "stress(" + how + ")"; x.stress(how); return "";
        }
    }

    private static String seen(int answer) {
        SEEN[answer & 7]++;
        return "" + answer;
    }

    private String onModel(int which, long[] a) {
        Model x = model;
        int r = (int) a[0];
        int p = (int) a[1];
        int s = (int) a[2];
        long key = a[5];
        int small = (int) a[10];
        int how = small > 2 ? (int) a[11] : small;
        switch (which) {
            case 0: x.object(r, p, a[12] == 0); return "";
            case 1: x.copy(r, p); return "";
            case 2: return "" + x.same(r, s);
            case 3: x.operand((int) a[3], a[4]); return "";
            case 4: return "" + x.kind();
            case 5: return "" + x.bits();
            case 6: x.hold(r); return "";
            case 7: return "" + x.get(r, key);
            case 8: return "" + x.put(r, key);
            case 9: return "" + x.define(r, key, (int) a[6], (int) a[7], (int) a[8], (int) a[9]);
            case 10: return "" + x.own(r, key);
            case 11: return "" + x.setter(r, key, s);
            case 12: return "" + x.has(r, key);
            case 13: return "" + x.delete(r, key);
            case 14: return "" + x.keys(r);
            case 15: return "" + x.key(r, small);
            case 16: x.lock(r, how); return "";
            case 17: return "" + x.locked(r, how);
            case 18: x.prototype(r, s); return "";
            default: x.stress(how); return "";
        }
    }
}
