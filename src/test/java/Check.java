import java.util.function.Consumer;
import java.util.function.Supplier;

/** Counts answers that are not as due, for all tests of the project. */
final class Check {
    static final int ROOTS = 24;
    /** Tests that take pictures hold their objects below this root; the picture uses the others. */
    static final int SPARE = 16;

    private final String name;
    private int checks;
    private int wrong;

    Check(String name) {
        this.name = name;
    }

    void due(String call, long got, long want) {
        checks++;
        if (got != want) {
            tell(call + " answered " + got + ", due is " + want);
        }
    }

    void due(String call, boolean got, boolean want) {
        due(call, got ? 1L : 0L, want ? 1L : 0L);
    }

    void due(String call, String got, String want) {
        checks++;
        if (!got.equals(want)) {
            tell(call + " answered\n  " + got + "\ndue is\n  " + want);
        }
    }

    /** A call must throw just this exception, and leave a store as it was. */
    void refuses(String call, Class<? extends RuntimeException> due, Supplier<PropertyStore> maker,
            Consumer<PropertyStore> wrongCall) {
        PropertyStore touched = maker.get();
        due(call + " throws", thrown(() -> wrongCall.accept(touched)), due.getSimpleName());
        due("a picture behind " + call, picture(touched), picture(maker.get()));
    }

    void refuses(String call, Supplier<PropertyStore> maker, Consumer<PropertyStore> wrongCall) {
        refuses(call, IllegalArgumentException.class, maker, wrongCall);
    }

    /** Ends the test's program with 1 if an answer was not as due. */
    void end() {
        System.out.println(name + ": " + checks + " checks, " + wrong + " wrong");
        if (wrong != 0 || checks == 0) {
            System.exit(1);
        }
    }

    static String thrown(Runnable call) {
        try {
            call.run();
            return "nothing";
        } catch (RuntimeException e) {
            return e.getClass().getSimpleName();
        }
    }

    static long number(double d) {
        return Double.doubleToRawLongBits(d);
    }

    /** All that can be seen of a store by calls; it changes the store. */
    static String picture(PropertyStore x) {
        StringBuilder text = new StringBuilder();
        text.append("result ").append(result(x));
        x.object(SPARE, -1, false);
        x.put(SPARE, -2);
        x.get(SPARE, -2);
        text.append(" operand ").append(result(x));
        for (int r = 0; r < SPARE; r++) {
            text.append("; ").append(r).append(' ').append(whichRoot(x, r));
            if (whichRoot(x, r).equals("=" + r)) {
                text.append(object(x, r));
            }
        }
        return text.toString();
    }

    private static String object(PropertyStore x, int r) {
        StringBuilder text = new StringBuilder();
        x.prototype(r, SPARE + 1);
        text.append(" prototype ").append(whichRoot(x, SPARE + 1));
        for (int how = 0; how < 3; how++) {
            text.append(x.locked(r, how) ? " locked" : " open");
        }
        for (int k = 0; k < x.keys(r); k++) {
            long key = x.key(r, k);
            text.append(", ").append(key).append(": ").append(x.own(r, key)).append(' ').append(result(x));
            if (x.setter(r, key, SPARE + 2)) {
                text.append(" setter ").append(whichRoot(x, SPARE + 2));
            }
        }
        return text.toString();
    }

    private static String result(PropertyStore x) {
        if (x.kind() == 4) {
            return "4 " + x.bits();
        }
        if (x.kind() == 5) {
            x.hold(SPARE + 3);
            return "5 " + whichRoot(x, SPARE + 3);
        }
        return "" + x.kind();
    }

    /** The first root that holds what root r holds. */
    private static String whichRoot(PropertyStore x, int r) {
        if (x.same(r, ROOTS - 1)) {
            return "nothing";
        }
        for (int s = 0; s < SPARE; s++) {
            if (x.same(r, s)) {
                return "=" + s;
            }
        }
        return "another";
    }

    private void tell(String text) {
        wrong++;
        if (wrong <= 20) {
            System.out.println(name + ": " + text);
        }
    }
}
