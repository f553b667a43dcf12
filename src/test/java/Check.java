import java.util.Map;
import java.util.Set;
import java.util.TreeMap;
import java.util.TreeSet;
import java.util.function.Consumer;
import java.util.function.Supplier;
import java.util.function.ToLongFunction;
import java.util.stream.IntStream;

/** Counts answers that are not as due, for all tests of the project. */
final class Check {
    static final int ROOTS = 24;
    /** Tests that take pictures hold their objects below this root; the picture uses the others. */
    static final int SPARE = 16;
    /** No test makes a property of this key where a put is refused. */
    static final long NEVER = -63;

    private static final int[] NO_ROOTS = {-1, -2, 24, Integer.MIN_VALUE, Integer.MAX_VALUE};
    /** The first ones beyond, and some whose lower half alone would be a key. */
    private static final long[] NO_KEYS = {
        -65, 4294967295L, 1L << 32, -1L << 32, (-1L << 32) - 1, Long.MIN_VALUE, Long.MAX_VALUE,
    };
    private static final long[] EDGE_KEYS = {-64, -1, 0, 4294967294L};

    /** The sentences that were told, by the document's sections. */
    static final Map<String, Set<String>> QUOTES = new TreeMap<>();

    interface RootCall {
        void on(PropertyStore x, int r);
    }

    interface KeyCall {
        void on(PropertyStore x, int r, long key);
    }

    private final String name;
    private int checks;
    private int wrong;
    private String sentence = "";
    private int checksAhead;

    Check(String name) {
        this.name = name;
    }

    /** Tells the document's sentence, or a part of it, that the checks from here on are for. */
    void sentence(String where, String text) {
        endSentence();
        QUOTES.computeIfAbsent(where.replaceFirst(",.*", ""), section -> new TreeSet<>()).add(text);
        sentence = where + ", \"" + text + "\": ";
    }

    private void endSentence() {
        if (!sentence.isEmpty() && checks == checksAhead) {
            tell("no check");
        }
        checksAhead = checks;
    }

    void due(String call, long got, long want) {
        checks++;
        if (got != want) {
            tell(call + " answered " + got + ", due is " + want);
        }
    }

    void due(String call, boolean got, boolean want) {
        due(call, got ? 1L : 0L, want ? 1L : 0L);
    }

    void due(String call, String got, String want) {
        checks++;
        if (!got.equals(want)) {
            tell(call + " answered\n  " + got + "\ndue is\n  " + want);
        }
    }

    void dueLength(PropertyStore x, int r, double d, int attributes) {
        due("own(" + r + ", -1)", x.own(r, -1), attributes);
        dueNumber("own(" + r + ", -1)", x, d);
    }

    void dueKeys(PropertyStore x, int r, long... due) {
        int keys = x.keys(r);
        due("keys(" + r + ")", keys, due.length);
        for (int k = 0; k < due.length && k < keys; k++) {
            due("key(" + r + ", " + k + ")", x.key(r, k), due[k]);
        }
    }

    void dueNumber(PropertyStore x, int r, long key, double d) {
        due("get(" + r + ", " + key + ")", x.get(r, key), 0);
        dueNumber("get(" + r + ", " + key + ")", x, d);
    }

    private void dueNumber(String call, PropertyStore x, double d) {
        int kind = x.kind();
        due("kind() behind " + call, kind, 4);
        if (kind == 4) {
            due("bits() behind " + call, x.bits(), number(d));
        }
    }

    /** A call must throw just this exception, and leave a store as it was. */
    void refuses(String call, Class<? extends RuntimeException> due, Supplier<PropertyStore> maker,
            Consumer<PropertyStore> wrongCall) {
        PropertyStore touched = maker.get();
        due(call + " throws", thrown(() -> wrongCall.accept(touched)), due.getSimpleName());
        due("a picture behind " + call, picture(touched), picture(maker.get()));
    }

    void refuses(String call, Supplier<PropertyStore> maker, Consumer<PropertyStore> wrongCall) {
        refuses(call, IllegalArgumentException.class, maker, wrongCall);
    }

    /** A call must answer so, and leave a store as it was. */
    void leaves(String call, long due, Supplier<PropertyStore> maker, ToLongFunction<PropertyStore> quietCall) {
        PropertyStore touched = maker.get();
        due(call, quietCall.applyAsLong(touched), due);
        due("a picture behind " + call, picture(touched), picture(maker.get()));
    }

    /** A put must answer so, and leave a store as it was, but for the result, which is undefined. */
    void leavesPut(String call, int due, Supplier<PropertyStore> maker, int r, long key) {
        PropertyStore touched = maker.get();
        PropertyStore left = maker.get();
        left.get(r, NEVER);
        due(call, touched.put(r, key), due);
        due("a picture behind " + call, picture(touched), picture(left));
    }

    void needsRoot(String call, RootCall on) {
        for (int r : NO_ROOTS) {
            refuses(call + " of root " + r, Scene::rich, x -> on.on(x, r));
        }
    }

    void needsObject(String call, RootCall on) {
        needsRoot(call, on);
        refuses(call + " of a root that holds nothing", Scene::rich, x -> on.on(x, Scene.EMPTY));
    }

    void needsKey(String call, KeyCall on) {
        needsObject(call, (x, r) -> on.on(x, r, -2));
        for (long key : NO_KEYS) {
            refuses(call + " of key " + key, Scene::rich, x -> on.on(x, 1, key));
            refuses(call + " of an array's key " + key, Scene::rich, x -> on.on(x, 0, key));
        }
        for (long key : EDGE_KEYS) {
            due(call + " of key " + key + " throws", thrown(() -> on.on(Scene.rich(), 1, key)), "nothing");
            due(call + " of an array's key " + key + " throws", thrown(() -> on.on(Scene.rich(), 0, key)), "nothing");
        }
    }

    /** Ends the test's program with 1 if an answer was not as due. */
    void end() {
        endSentence();
        System.out.println(name + ": " + checks + " checks, " + wrong + " wrong");
        if (wrong != 0 || checks == 0) {
            System.exit(1);
        }
    }

    static String thrown(Runnable call) {
        try {
            call.run();
            return "nothing";
        } catch (RuntimeException e) {
            return e.getClass().getSimpleName();
        }
    }

    static long number(double d) {
        return Double.doubleToRawLongBits(d);
    }

    /** All that can be seen of a store by calls; it changes the store. */
    static String picture(PropertyStore x) {
        return picture(new Real(x));
    }

    static String picture(Store x) {
        int[] held = heldRoots(x);
        StringBuilder text = new StringBuilder();
        text.append("result ").append(result(x, held));
        x.object(SPARE, -1, false);
        x.put(SPARE, -2);
        x.get(SPARE, -2);
        text.append(" operand ").append(result(x, held));
        for (int r : held) {
            String which = whichRoot(x, r, held);
            text.append("; ").append(r).append(' ').append(which);
            if (which.equals("=" + r)) {
                text.append(object(x, r, held));
            }
        }
        return text.toString();
    }

    private static int[] heldRoots(Store x) {
        return IntStream.range(0, SPARE).filter(r -> !x.same(r, ROOTS - 1)).toArray();
    }

    private static String object(Store x, int r, int[] held) {
        StringBuilder text = new StringBuilder();
        x.prototype(r, SPARE + 1);
        text.append(" prototype ").append(whichRoot(x, SPARE + 1, held));
        for (int how = 0; how < 3; how++) {
            text.append(x.locked(r, how) ? " locked" : " open");
        }
        int keys = x.keys(r);
        for (int k = 0; k < keys; k++) {
            long key = x.key(r, k);
            text.append(", ").append(key).append(": ").append(x.own(r, key)).append(' ').append(result(x, held));
            if (x.setter(r, key, SPARE + 2)) {
                text.append(" setter ").append(whichRoot(x, SPARE + 2, held));
            }
        }
        return text.toString();
    }

    private static String result(Store x, int[] held) {
        int kind = x.kind();
        if (kind == 4) {
            return "4 " + x.bits();
        }
        if (kind == 5) {
            x.hold(SPARE + 3);
            return "5 " + whichRoot(x, SPARE + 3, held);
        }
        return "" + kind;
    }

    /** The first root that holds what root r holds. */
    private static String whichRoot(Store x, int r, int[] held) {
        if (x.same(r, ROOTS - 1)) {
            return "nothing";
        }
        for (int s : held) {
            if (x.same(r, s)) {
                return "=" + s;
            }
        }
        return "another";
    }

    private void tell(String text) {
        wrong++;
        if (wrong <= 20) {
            String stress = Scene.stress == 0 ? "" : "with stress(" + Scene.stress + "), ";
            System.out.println(name + ": " + stress + sentence + text);
        }
    }
}
