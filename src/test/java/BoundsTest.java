import java.util.function.Consumer;
import java.util.function.Supplier;

/**
 * The sentences of the promises 1 to 21 that name a boundary case, one method each: the least and the
 * greatest argument and the first ones beyond, what is empty, what is full, and each call that is
 * refused or throws, which changes nothing.
 */
public final class BoundsTest extends Scene {
    private static final String LIKEWISE = "IllegalArgumentException: likewise.";
    private static final int[] BEYOND_ROOTS = {-2, 24, 32, 256, Integer.MIN_VALUE, Integer.MAX_VALUE};
    private static final int[] EDGE_ROOTS = {0, 1, 22, 23};
    private static final Check CHECK = new Check("BoundsTest");

    public static void main(String[] args) {
        withEachStress(BoundsTest::all);
        CHECK.end();
    }

    static void all() {
        newStore();
        object();
        objectThrows();
        copy();
        copyThrows();
        same();
        sameThrows();
        operand();
        operandOfOtherKinds();
        operandThrows();
        kind();
        bits();
        bitsThrows();
        hold();
        holdThrowsFirst();
        holdThrows();
        get();
        getThrows();
        put();
        putOfLength();
        putThrows();
        defineTold();
        defineFlags();
        defineGetterAndSetter();
        defineAnswers();
        defineThrowsLikewise();
        defineThrowsByTold();
        defineThrowsByGetterOrSetter();
        ownOfNothing();
        ownAdds();
        ownGivesGetter();
        ownThrows();
        setter();
        setterOfNothing();
        setterThrows();
        has();
        hasThrows();
        delete();
        deleteThrows();
        keys();
        keysThrows();
        key();
        keyThrows();
        lockOfAll();
        lockThrows();
        locked();
        lockedThrows();
        prototype();
        prototypeThrows();
        stress();
        stressThrows();
    }

    private static void newStore() {
        CHECK.sentence("Promise 1", "Roots hold nothing.");
        for (int r = 0; r < Check.ROOTS; r++) {
            int root = r;
            PropertyStore x = fresh();
            CHECK.due("keys(" + r + ") throws", Check.thrown(() -> x.keys(root)), "IllegalArgumentException");
            CHECK.due("same(" + r + ", 23)", x.same(r, 23), true);
            x.object((r + 1) % Check.ROOTS, -1, true);
            CHECK.due("same(" + r + ", next)", x.same(r, (r + 1) % Check.ROOTS), false);
        }
    }

    private static void object() {
        CHECK.sentence("Promise 2", "Root r holds a new object (or array) with what root p (r itself, too) held "
                + "as its prototype (p -1: none).");
        for (int r : EDGE_ROOTS) {
            for (int p : EDGE_ROOTS) {
                PropertyStore x = fresh();
                x.object(p, -1, true);
                x.copy(9, p);
                x.object(r, p, false);
                CHECK.due("keys of a new object", x.keys(r), 0);
                CHECK.due("it is not its prototype", x.same(r, 9), false);
                x.prototype(r, 10);
                CHECK.due("object(" + r + ", " + p + "): the prototype", x.same(10, 9), true);
                x.object(r, -1, true);
                CHECK.dueKeys(x, r, LENGTH);
                x.prototype(r, 10);
                CHECK.due("object(" + r + ", -1): no prototype", x.same(10, EMPTY), true);
            }
        }
    }

    private static void objectThrows() {
        CHECK.sentence("Promise 2", "IllegalArgumentException: no such roots, or p holds nothing.");
        CHECK.needsRoot("object", (x, r) -> x.object(r, -1, false));
        CHECK.needsRoot("array", (x, r) -> x.object(r, 0, true));
        for (int p : BEYOND_ROOTS) {
            CHECK.refuses("object with prototype " + p, Scene::rich, x -> x.object(0, p, false));
        }
        CHECK.refuses("object with an empty prototype", Scene::rich, x -> x.object(0, EMPTY, false));
        CHECK.refuses("array over itself, empty", Scene::rich, x -> x.object(EMPTY, EMPTY, true));
    }

    private static void copy() {
        CHECK.sentence("Promise 3", "Root r holds what root s holds (s -1: nothing).");
        for (int r : EDGE_ROOTS) {
            for (int s : EDGE_ROOTS) {
                PropertyStore x = fresh();
                x.object(s, -1, false);
                x.put(s, LAST_NAME);
                x.copy(r, s);
                CHECK.due("copy(" + r + ", " + s + ")", x.same(r, s), true);
                CHECK.due("it holds the object", x.has(r, LAST_NAME), true);
                x.copy(r, EMPTY);
                CHECK.due("copy of an empty root", x.same(r, OTHER), true);
                x.object(r, -1, false);
                x.copy(r, -1);
                CHECK.due("copy(" + r + ", -1)", x.same(r, EMPTY), true);
            }
        }
    }

    private static void copyThrows() {
        CHECK.sentence("Promise 3", "IllegalArgumentException: no such roots.");
        CHECK.needsRoot("copy", (x, r) -> x.copy(r, 0));
        CHECK.needsRoot("copy of nothing", (x, r) -> x.copy(r, -1));
        for (int s : BEYOND_ROOTS) {
            CHECK.refuses("copy of root " + s, Scene::rich, x -> x.copy(0, s));
        }
    }

    private static void same() {
        CHECK.sentence("Promise 4", "Whether both roots hold the same object (or nothing).");
        PropertyStore x = fresh();
        CHECK.due("same(0, 23) of nothing", x.same(0, 23), true);
        x.object(0, -1, false);
        CHECK.due("same(0, 23)", x.same(0, 23), false);
        CHECK.due("same(23, 0)", x.same(23, 0), false);
        x.object(23, -1, false);
        CHECK.due("same(0, 23) of two that are alike", x.same(0, 23), false);
        x.copy(23, 0);
        CHECK.due("same(0, 23) of one", x.same(0, 23), true);
        CHECK.due("same(23, 0) of one", x.same(23, 0), true);
        CHECK.due("same(23, 23)", x.same(23, 23), true);
    }

    private static void sameThrows() {
        CHECK.sentence("Promise 4", "IllegalArgumentException: no such roots.");
        CHECK.needsRoot("same", (x, r) -> x.same(r, 0));
        CHECK.needsRoot("same", (x, r) -> x.same(0, r));
        CHECK.needsRoot("same of both", (x, r) -> x.same(r, r));
    }

    private static void operand() {
        CHECK.sentence("Promise 5", "The operand becomes a value: bits are a number's, or the root that holds an object");
        for (int r : EDGE_ROOTS) {
            PropertyStore x = fresh();
            x.object(r, -1, false);
            x.object(9, -1, false);
            x.operand(5, r);
            x.put(9, -2);
            x.get(9, -2);
            x.hold(10);
            CHECK.due("operand(5, " + r + ")", x.same(10, r), true);
        }
        for (long bits : new long[] {0, 1, Long.MIN_VALUE, 0x7FF0000000000000L, 24, -2}) {
            PropertyStore x = withProperty(0, 0, -1, -1);
            x.operand(4, bits);
            x.put(0, -3);
            x.get(0, -3);
            CHECK.due("operand(4, " + bits + ")", x.bits(), bits == -2 ? 0x7FF8000000000000L : bits);
        }
    }

    private static void operandOfOtherKinds() {
        CHECK.sentence("Promise 5", "of no matter for other kinds");
        for (int kind = 0; kind < 4; kind++) {
            for (long bits : new long[] {0, -1, 24, EMPTY, Long.MIN_VALUE, Long.MAX_VALUE}) {
                PropertyStore x = withProperty(0, 0, -1, -1);
                x.operand(kind, bits);
                x.define(0, -3, VALUE, 0, -1, -1);
                x.operand(kind, ~bits);
                CHECK.due("the same value with other bits", x.define(0, -3, VALUE, 0, -1, -1), 0);
                x.get(0, -3);
                CHECK.due("kind()", x.kind(), kind);
            }
        }
    }

    private static void operandThrows() {
        CHECK.sentence("Promise 5", "IllegalArgumentException: no such kind, or an object's root that is not there "
                + "or holds nothing.");
        for (int kind : new int[] {-1, 6, 7, Integer.MIN_VALUE, Integer.MAX_VALUE}) {
            CHECK.refuses("operand of kind " + kind, Scene::rich, x -> x.operand(kind, 0));
        }
        for (long r : new long[] {-1, 24, 1L << 32, (1L << 32) + 1, -1L << 32, Long.MIN_VALUE, Long.MAX_VALUE}) {
            CHECK.refuses("operand of root " + r, Scene::rich, x -> x.operand(5, r));
        }
        CHECK.refuses("operand of an empty root", Scene::rich, x -> x.operand(5, EMPTY));
        CHECK.refuses("operand of the last root, empty", Scene::rich, x -> x.operand(5, 23));
    }

    /** A store whose result is of a kind; an object's is root 2's, a number is 9. */
    private static Supplier<PropertyStore> withResult(int kind) {
        return () -> {
            PropertyStore x = rich();
            x.operand(kind, kind == 5 ? 2 : Check.number(9));
            x.put(3, -8);
            x.get(3, -8);
            return x;
        };
    }

    private static void kind() {
        CHECK.sentence("Promise 6", "The kind of the result.");
        CHECK.due("kind() of a new store", fresh().kind(), 0);
        for (int kind = 0; kind <= 5; kind++) {
            CHECK.leaves("kind()", kind, withResult(kind), x -> x.kind());
        }
    }

    private static void bits() {
        CHECK.sentence("Promise 7", "The bits of the result, which is a number.");
        CHECK.leaves("bits()", Check.number(9), withResult(4), x -> x.bits());
    }

    private static void bitsThrows() {
        CHECK.sentence("Promise 7", "IllegalStateException: it is none.");
        for (int kind : new int[] {0, 1, 2, 3, 5}) {
            CHECK.refuses("bits() of kind " + kind, IllegalStateException.class, withResult(kind), x -> x.bits());
        }
        CHECK.refuses("bits() of a new store", IllegalStateException.class, Scene::fresh, x -> x.bits());
    }

    private static void hold() {
        CHECK.sentence("Promise 8", "Root r holds the result, which is an object.");
        for (int r : EDGE_ROOTS) {
            PropertyStore x = withResult(5).get();
            x.copy(9, 2);
            x.hold(r);
            CHECK.due("hold(" + r + ")", x.same(r, 9), true);
            x.copy(r, -1);
            x.hold(r);
            CHECK.due("hold(" + r + ") once more", x.same(r, 9), true);
        }
    }

    private static void holdThrowsFirst() {
        CHECK.sentence("Promise 8", "IllegalArgumentException, first: no such root");
        CHECK.needsRoot("hold", (x, r) -> x.hold(r));
        for (int kind = 0; kind <= 5; kind++) {
            for (int r : new int[] {-1, 24}) {
                CHECK.refuses("hold of root " + r + ", kind " + kind, withResult(kind), x -> x.hold(r));
            }
        }
    }

    private static void holdThrows() {
        CHECK.sentence("Promise 8", "IllegalStateException: it is none.");
        for (int kind = 0; kind <= 4; kind++) {
            for (int r : new int[] {0, EMPTY, 23}) {
                CHECK.refuses("hold of kind " + kind, IllegalStateException.class, withResult(kind), x -> x.hold(r));
            }
        }
        CHECK.refuses("hold of a new store", IllegalStateException.class, Scene::fresh, x -> x.hold(0));
    }

    private static void get() {
        CHECK.sentence("Promise 9", "Gets: 0, with the result; 1 when a getter is to be called, which is the result.");
        PropertyStore x = withProperty(GETTER, 0, 1, 2);
        CHECK.due("get of a getter", x.get(0, -2), 1);
        x.hold(9);
        CHECK.due("the result is the getter", x.same(9, 1), true);
        CHECK.due("get of nothing", x.get(0, LAST_NAME), 0);
        CHECK.due("kind()", x.kind(), 0);
        x.operand(5, 1);
        x.put(0, LAST_INDEX);
        CHECK.due("get of a value that is an object", x.get(0, LAST_INDEX), 0);
        CHECK.due("kind()", x.kind(), 5);
        CHECK.due("get of an accessor without getter", withProperty(SETTER, 0, 1, 2).get(0, -2), 0);
    }

    private static void getThrows() {
        CHECK.sentence("Promise 9", "IllegalArgumentException: no such root, it holds nothing, or no such key.");
        CHECK.needsKey("get", (x, r, key) -> x.get(r, key));
    }

    private static void put() {
        CHECK.sentence("Promise 10", "Puts the operand: 0 done (the result is undefined); 1 a setter is to be called, "
                + "which is the result; 2 refused, 3 bad (undefined");
        PropertyStore x = withResult(5).get();
        CHECK.due("put, done", x.put(2, 0), 0);
        CHECK.due("kind()", x.kind(), 0);
        CHECK.due("put, a setter", x.put(1, -3), 1);
        CHECK.due("kind()", x.kind(), 5);
        x.hold(9);
        CHECK.due("the result is the setter", x.same(9, 3), true);
        x.lock(2, 0);
        CHECK.due("put, refused", x.put(2, 1), 2);
        CHECK.due("kind()", x.kind(), 0);
        x.get(2, 0);
        CHECK.due("put, bad", x.put(0, LENGTH), 3);
        CHECK.due("kind()", x.kind(), 0);
        CHECK.dueLength(x, 0, 4, W);
    }

    private static void putOfLength() {
        CHECK.sentence("Promise 10", "of a LENGTH that is not writable 2, also with a bad value");
        for (int kind = 0; kind <= 5; kind++) {
            for (double d : new double[] {-1, 0.5, 0, 4, 5, Double.NaN}) {
                long bits = kind == 5 ? 0 : Check.number(d);
                int told = kind;
                CHECK.leavesPut("put of kind " + kind + ", " + d, 2, () -> {
                    PropertyStore x = rich();
                    x.define(0, LENGTH, W, 0, -1, -1);
                    x.operand(told, bits);
                    return x;
                }, 0, LENGTH);
            }
        }
    }

    private static void putThrows() {
        CHECK.sentence("Promise 10", LIKEWISE);
        CHECK.needsKey("put", (x, r, key) -> x.put(r, key));
    }

    private static boolean isBothKinds(int told) {
        return (told & (VALUE | W)) != 0 && (told & (GETTER | SETTER)) != 0;
    }

    private static void defineTold() {
        CHECK.sentence("Promise 11", "Defines by a description: told has a bit for each that is told (1 value, which is the operand; "
                + "2 writable, 4 getter, 8 setter, 16 enumerable, 32 configurable)");
        for (int told = 0; told <= 63; told++) {
            if (isBothKinds(told)) {
                continue;
            }
            PropertyStore x = withProperty(told, WEC, 1, 2);
            boolean accessor = (told & (GETTER | SETTER)) != 0;
            CHECK.due("own behind told " + told, x.own(0, -2), told & WEC | (accessor ? ACCESSOR : 0));
            CHECK.due("kind()", x.kind(), (told & VALUE) != 0 ? 4 : (told & GETTER) != 0 ? 5 : 0);
            CHECK.due("setter(0, -2, 9)", x.setter(0, -2, 9), (told & SETTER) != 0);
        }
    }

    private static void defineFlags() {
        CHECK.sentence("Promise 11", "flags the same bits for those of writable, enumerable, configurable that are told "
                + "and true (others are of no matter)");
        for (int flags : new int[] {0, W, E, C, ~WEC, ~W, -1, 64, Integer.MIN_VALUE, Integer.MAX_VALUE}) {
            PropertyStore all = withProperty(VALUE | WEC, flags, -1, -1);
            CHECK.due("all told, flags " + flags, all.own(0, -2), flags & WEC);
            CHECK.due("the value is told", all.kind(), 4);
            PropertyStore none = withProperty(0, flags, -1, -1);
            CHECK.due("nothing told, flags " + flags, none.own(0, -2), 0);
            PropertyStore one = withProperty(E, flags, -1, -1);
            CHECK.due("enumerable told, flags " + flags, one.own(0, -2), flags & E);
            PropertyStore kept = withProperty(VALUE | WEC, WEC, -1, -1);
            CHECK.due("nothing told of one that is there", kept.define(0, -2, 0, flags, -1, -1), 0);
            CHECK.due("own(0, -2), flags " + flags, kept.own(0, -2), WEC);
        }
    }

    private static void defineGetterAndSetter() {
        CHECK.sentence("Promise 11", "getter and setter are roots, -1 for none (of no matter when they are not told)");
        for (int r : EDGE_ROOTS) {
            PropertyStore x = fresh();
            x.object(9, -1, false);
            x.object(r, -1, true);
            CHECK.due("a getter", x.define(9, -2, GETTER, 0, r, 99), 0);
            CHECK.due("get(9, -2)", x.get(9, -2), 1);
            x.hold(10);
            CHECK.due("the getter is root " + r + "'s", x.same(10, r), true);
            CHECK.due("a setter", x.define(9, -3, SETTER, 0, -99, r), 0);
            CHECK.due("setter(9, -3, 11)", x.setter(9, -3, 11), true);
            CHECK.due("the setter is root " + r + "'s", x.same(11, r), true);
        }
        PropertyStore y = withProperty(GETTER | SETTER | C, C, 1, 2);
        CHECK.due("none of both", y.define(0, -2, GETTER | SETTER, 0, -1, -1), 0);
        CHECK.due("get(0, -2)", y.get(0, -2), 0);
        CHECK.due("setter(0, -2, 9)", y.setter(0, -2, 9), false);
        for (int r : new int[] {-2, 24, EMPTY, Integer.MIN_VALUE, Integer.MAX_VALUE}) {
            for (int told : new int[] {0, VALUE | WEC, E | C}) {
                CHECK.due("not told: " + r, withProperty(0, 0, -1, -1).define(1, -2, told, 0, r, r), 0);
            }
        }
    }

    private static void defineAnswers() {
        CHECK.sentence("Promise 11", "0 done, 2 refused, 3 bad.");
        PropertyStore x = withResult(5).get();
        CHECK.due("done", x.define(2, -2, VALUE, 0, -1, -1), 0);
        CHECK.due("refused", x.define(2, -2, W, W, -1, -1), 2);
        CHECK.due("bad", x.define(0, LENGTH, VALUE, 0, -1, -1), 3);
        CHECK.due("an accessor is no call here", x.define(1, -3, SETTER, 0, -1, 3), 0);
        CHECK.due("the result stays", x.kind(), 5);
    }

    private static void defineThrowsLikewise() {
        CHECK.sentence("Promise 11", "IllegalArgumentException: likewise, or told is below 0 or above 63");
        CHECK.needsKey("define", (x, r, key) -> x.define(r, key, 0, 0, -1, -1));
        CHECK.needsKey("define of all", (x, r, key) -> x.define(r, key, GETTER | SETTER | E | C, -1, 0, 1));
    }

    private static void defineThrowsByTold() {
        CHECK.sentence("Promise 11", "told is below 0 or above 63 or has bits of both kinds");
        for (int told : new int[] {-1, -2, -64, 64, 65, 128, 1 << 16, Integer.MIN_VALUE, Integer.MAX_VALUE}) {
            CHECK.refuses("define with told " + told, Scene::rich, x -> x.define(1, -2, told, WEC, -1, -1));
        }
        for (int told = 0; told <= 63; told++) {
            int bits = told;
            if (isBothKinds(told)) {
                CHECK.refuses("define with told " + told, Scene::rich, x -> x.define(1, -2, bits, WEC, -1, -1));
                CHECK.refuses("define of LENGTH with told " + told, Scene::rich, x -> x.define(0, LENGTH, bits, W, 1, 1));
            } else {
                CHECK.due("define with told " + told + " throws",
                        Check.thrown(() -> rich().define(1, -2, bits, WEC, -1, -1)), "nothing");
            }
        }
    }

    private static void defineThrowsByGetterOrSetter() {
        CHECK.sentence("Promise 11", "or a getter or setter that is told is no root, or one that holds nothing.");
        for (int r : new int[] {-2, 24, 32, EMPTY, Integer.MIN_VALUE, Integer.MAX_VALUE}) {
            CHECK.refuses("getter " + r, Scene::rich, x -> x.define(1, -3, GETTER, 0, r, -1));
            CHECK.refuses("setter " + r, Scene::rich, x -> x.define(1, -3, SETTER, 0, -1, r));
            CHECK.refuses("getter " + r + " of both", Scene::rich, x -> x.define(1, -3, 60, C, r, 0));
            CHECK.refuses("setter " + r + " of both", Scene::rich, x -> x.define(1, -3, 60, C, 0, r));
            CHECK.refuses("getter " + r + ", where it would be refused", Scene::rich,
                    x -> x.define(0, LENGTH, GETTER, 0, r, -1));
        }
    }

    private static void ownOfNothing() {
        CHECK.sentence("Promise 12", "Of an own property: -1 when there is none (the result is undefined then)");
        PropertyStore x = withResult(5).get();
        CHECK.due("own of nothing", x.own(2, LAST_INDEX), -1);
        CHECK.due("kind()", x.kind(), 0);
        x.get(1, 4);
        CHECK.due("own of the prototype's", x.own(1, LENGTH), -1);
        CHECK.due("kind()", x.kind(), 0);
    }

    private static void ownAdds() {
        CHECK.sentence("Promise 12", "otherwise 2 writable, 16 enumerable, 32 configurable, 64 an accessor, added");
        int[] sums = {0, 2, 16, 18, 32, 34, 48, 50};
        for (int sum : sums) {
            CHECK.due("own of data", withProperty(VALUE | WEC, sum, -1, -1).own(0, -2), sum);
            CHECK.due("own of an accessor", withProperty(GETTER | E | C, sum, 1, -1).own(0, -2), 64 + (sum & ~W));
            CHECK.due("own of an empty accessor", withProperty(SETTER | E | C, sum, -1, -1).own(0, -2), 64 + (sum & ~W));
        }
    }

    private static void ownGivesGetter() {
        CHECK.sentence("Promise 12", "the result is the value, or the getter (undefined without one)");
        PropertyStore x = withProperty(GETTER | SETTER | C, C, 1, 2);
        x.own(0, -2);
        x.hold(9);
        CHECK.due("the result is the getter", x.same(9, 1), true);
        x.define(0, -2, GETTER, 0, -1, -1);
        CHECK.due("own without getter", x.own(0, -2), ACCESSOR | C);
        CHECK.due("kind()", x.kind(), 0);
        PropertyStore y = withProperty(VALUE, 0, -1, -1);
        y.own(0, -2);
        CHECK.due("the result is the value", y.bits(), Check.number(5));
    }

    private static void ownThrows() {
        CHECK.sentence("Promise 12", LIKEWISE);
        CHECK.needsKey("own", (x, r, key) -> x.own(r, key));
    }

    private static void setter() {
        CHECK.sentence("Promise 13", "Root s holds the setter of an own accessor");
        for (int s : EDGE_ROOTS) {
            PropertyStore x = rich();
            x.copy(9, 1);
            x.copy(10, 3);
            CHECK.due("setter(9, -3, " + s + ")", x.setter(9, -3, s), true);
            CHECK.due("root " + s + " holds it", x.same(s, 10), true);
        }
    }

    private static void setterOfNothing() {
        CHECK.sentence("Promise 13", "false, and nothing done, when there is no such property, or no setter");
        for (int s : new int[] {0, 1, EMPTY}) {
            CHECK.leaves("setter of no property", 0, Scene::rich, x -> x.setter(1, LAST_NAME, s) ? 1 : 0);
            CHECK.leaves("setter of data", 0, Scene::rich, x -> x.setter(1, -2, s) ? 1 : 0);
            CHECK.leaves("setter of data that is an object", 0, Scene::rich, x -> x.setter(1, 4, s) ? 1 : 0);
            CHECK.leaves("setter of LENGTH", 0, Scene::rich, x -> x.setter(0, LENGTH, s) ? 1 : 0);
            CHECK.leaves("no setter", 0, () -> withProperty(GETTER, 0, 1, -1), x -> x.setter(0, -2, s) ? 1 : 0);
            CHECK.leaves("setter of the prototype's", 0, () -> {
                PropertyStore x = rich();
                x.object(5, 1, false);
                return x;
            }, x -> x.setter(5, -3, s) ? 1 : 0);
        }
    }

    private static void setterThrows() {
        CHECK.sentence("Promise 13", "IllegalArgumentException: likewise, or no root s.");
        CHECK.needsKey("setter", (x, r, key) -> x.setter(r, key, 5));
        CHECK.needsRoot("setter into", (x, s) -> x.setter(1, -3, s));
        CHECK.needsRoot("setter of data into", (x, s) -> x.setter(1, -2, s));
        CHECK.needsRoot("setter of nothing into", (x, s) -> x.setter(2, 0, s));
    }

    private static void has() {
        CHECK.sentence("Promise 14", "Whether an object has a property of a key.");
        CHECK.leaves("of an empty object", 0, Scene::rich, x -> x.has(2, 0) ? 1 : 0);
        CHECK.leaves("its own", 1, Scene::rich, x -> x.has(1, 4) ? 1 : 0);
        CHECK.leaves("its prototype's", 1, Scene::rich, x -> x.has(1, LENGTH) ? 1 : 0);
        CHECK.leaves("what it leads to has", 0, Scene::rich, x -> x.has(0, 4) ? 1 : 0);
        CHECK.leaves("of undefined", 1, () -> withProperty(0, 0, -1, -1), x -> x.has(0, -2) ? 1 : 0);
        CHECK.leaves("of an empty accessor", 1, () -> withProperty(GETTER, 0, -1, -1), x -> x.has(0, -2) ? 1 : 0);
        PropertyStore y = fresh();
        y.object(0, -1, false);
        y.put(0, LAST_INDEX);
        for (int n = 0; n < 500; n++) {
            y.object(0, 0, false);
        }
        CHECK.due("through 500 prototypes", y.has(0, LAST_INDEX), true);
        CHECK.due("not through 500 prototypes", y.has(0, LAST_INDEX - 1), false);
    }

    private static void hasThrows() {
        CHECK.sentence("Promise 14", LIKEWISE);
        CHECK.needsKey("has", (x, r, key) -> x.has(r, key));
    }

    private static void delete() {
        CHECK.sentence("Promise 15", "Deletes: whether it is not refused.");
        CHECK.leaves("refused", 0, Scene::rich, x -> x.delete(0, LENGTH) ? 1 : 0);
        CHECK.leaves("nothing to do", 1, Scene::rich, x -> x.delete(0, LAST_INDEX) ? 1 : 0);
        PropertyStore y = rich();
        CHECK.due("done", y.delete(0, 3), true);
        CHECK.dueKeys(y, 0, 0, LENGTH);
        CHECK.dueLength(y, 0, 4, W);
        y.lock(0, 1);
        CHECK.due("of a sealed array", y.delete(0, 0), false);
        CHECK.due("of a sealed array, nothing there", y.delete(0, 3), true);
        CHECK.dueKeys(y, 0, 0, LENGTH);
    }

    private static void deleteThrows() {
        CHECK.sentence("Promise 15", LIKEWISE);
        CHECK.needsKey("delete", (x, r, key) -> x.delete(r, key));
    }

    private static void keys() {
        CHECK.sentence("Promise 16", "How many own properties an object has.");
        CHECK.leaves("keys of an empty object behind a full one", 0, () -> {
            PropertyStore x = rich();
            x.object(4, 0, false);
            return x;
        }, x -> x.keys(4));
        CHECK.leaves("keys of an array", 3, Scene::rich, x -> x.keys(0));
        PropertyStore y = fresh();
        y.object(0, -1, false);
        for (int n = 1; n <= 200; n++) {
            y.define(0, n > 136 ? n - 201 : n, C, C, -1, -1);
            CHECK.due("keys(0)", y.keys(0), n);
        }
        for (int n = 136; n > 132; n--) {
            y.delete(0, n);
            CHECK.due("keys(0) behind delete", y.keys(0), 63 + n);
        }
    }

    private static void keysThrows() {
        CHECK.sentence("Promise 16", "IllegalArgumentException: no such root, or it holds nothing.");
        CHECK.needsObject("keys", (x, r) -> x.keys(r));
    }

    private static void key() {
        CHECK.sentence("Promise 17", "Its k-th key in order (from 0).");
        PropertyStore x = rich();
        CHECK.dueKeys(x, 0, 0, 3, LENGTH);
        CHECK.dueKeys(x, 1, 4, -2, -3);
        PropertyStore y = fresh();
        y.object(0, -1, true);
        for (int n = 0; n < 250; n++) {
            y.put(0, LAST_INDEX - n);
        }
        for (int k = 0; k < 250; k++) {
            CHECK.due("key(0, " + k + ")", y.key(0, k), LAST_INDEX - 249 + k);
        }
        CHECK.due("key(0, 250)", y.key(0, 250), LENGTH);
        CHECK.due("key(0, 251) throws", Check.thrown(() -> y.key(0, 251)), "IllegalArgumentException");
    }

    private static void keyThrows() {
        CHECK.sentence("Promise 17", "IllegalArgumentException: likewise, or there is none.");
        CHECK.needsObject("key", (x, r) -> x.key(r, 0));
        for (int k : new int[] {-1, 3, 4, 1023, 1024, Integer.MIN_VALUE, Integer.MAX_VALUE}) {
            CHECK.refuses("key(0, " + k + ") of three", Scene::rich, x -> x.key(0, k));
            CHECK.refuses("key(2, " + k + ") of none", Scene::rich, x -> x.key(2, k));
        }
        CHECK.refuses("key(2, 0) of none", Scene::rich, x -> x.key(2, 0));
    }

    /** Root 0 holds an array with data, writable or not, and an accessor. */
    private static PropertyStore mixed() {
        PropertyStore x = array(0, 1);
        x.define(0, 1, W, 0, -1, -1);
        x.object(1, 0, false);
        x.define(0, -2, GETTER | SETTER | E | C, E | C, 1, 1);
        return x;
    }

    private static void dueMixed(PropertyStore x, int data, int readOnly, int accessor, int length) {
        CHECK.due("own of data", x.own(0, 0), data);
        CHECK.due("own of data that is not writable", x.own(0, 1), readOnly);
        CHECK.due("own of an accessor", x.own(0, -2), accessor);
        CHECK.due("own of LENGTH", x.own(0, LENGTH), length);
        CHECK.due("put of a new one", x.put(0, -9), 2);
        CHECK.due("put of a new one behind it", x.put(1, -9), 0);
    }

    private static void lockOfAll() {
        CHECK.sentence("Promise 18", "Locks an object: 0 it is not extensible any more; 1 nor are its own properties "
                + "configurable; 2 nor are its own data properties writable.");
        for (int first = -1; first <= 2; first++) {
            for (int how = 0; how <= 2; how++) {
                PropertyStore x = mixed();
                if (first >= 0) {
                    x.lock(0, first);
                }
                x.lock(0, how);
                int most = Math.max(first, how);
                int c = most < 1 ? C : 0;
                int w = most < 2 ? W : 0;
                dueMixed(x, w | E | c, E | c, ACCESSOR | E | c, w);
                CHECK.due("put of the accessor", x.put(0, -2), 1);
                CHECK.due("get of the accessor", x.get(0, -2), 1);
            }
        }
        PropertyStore empty = rich();
        empty.lock(2, 2);
        CHECK.due("put of an empty object", empty.put(2, 0), 2);
        CHECK.due("keys(2)", empty.keys(2), 0);
    }

    private static void lockThrows() {
        CHECK.sentence("Promise 18", "IllegalArgumentException: no such root, it holds nothing, or no such how.");
        for (int how = 0; how <= 2; how++) {
            int lock = how;
            CHECK.needsObject("lock " + how, (x, r) -> x.lock(r, lock));
        }
        for (int how : new int[] {-1, 3, 4, Integer.MIN_VALUE, Integer.MAX_VALUE}) {
            CHECK.refuses("lock(0, " + how + ")", Scene::rich, x -> x.lock(0, how));
            CHECK.refuses("lock(2, " + how + ")", Scene::rich, x -> x.lock(2, how));
        }
    }

    private static void dueLocked(String state, int levels, Consumer<PropertyStore> change) {
        for (int how = 0; how <= 2; how++) {
            int lock = how;
            CHECK.leaves(state + ": locked(0, " + how + ")", how < levels ? 1 : 0, () -> {
                PropertyStore x = mixed();
                change.accept(x);
                return x;
            }, x -> x.locked(0, lock) ? 1 : 0);
        }
    }

    private static void locked() {
        CHECK.sentence("Promise 19", "Whether it is so (however it came to be).");
        dueLocked("new", 0, x -> { });
        dueLocked("lock 0", 1, x -> x.lock(0, 0));
        dueLocked("lock 1", 2, x -> x.lock(0, 1));
        dueLocked("lock 2", 3, x -> x.lock(0, 2));
        dueLocked("new and empty", 0, x -> x.object(0, -1, false));
        dueLocked("empty, lock 0", 3, x -> {
            x.object(0, -1, false);
            x.lock(0, 0);
        });
        dueLocked("an empty array, lock 0", 2, x -> {
            x.object(0, -1, true);
            x.lock(0, 0);
        });
        dueLocked("all deleted, LENGTH not writable", 3, x -> {
            x.lock(0, 0);
            x.delete(0, 0);
            x.delete(0, 1);
            x.delete(0, -2);
            x.define(0, LENGTH, W, 0, -1, -1);
        });
        dueLocked("all defined so, but for an accessor", 1, x -> {
            x.lock(0, 0);
            x.define(0, 0, W | C, 0, -1, -1);
            x.define(0, 1, C, 0, -1, -1);
            x.define(0, LENGTH, W, 0, -1, -1);
        });
        dueLocked("all defined so", 3, x -> {
            x.lock(0, 0);
            x.define(0, 0, W | C, 0, -1, -1);
            x.define(0, 1, C, 0, -1, -1);
            x.define(0, -2, C, 0, -1, -1);
            x.define(0, LENGTH, W, 0, -1, -1);
        });
        dueLocked("all defined so, but extensible", 0, x -> {
            x.define(0, 0, W | C, 0, -1, -1);
            x.define(0, 1, C, 0, -1, -1);
            x.define(0, -2, C, 0, -1, -1);
            x.define(0, LENGTH, W, 0, -1, -1);
        });
        dueLocked("all defined so, but LENGTH is writable", 2, x -> {
            x.lock(0, 1);
            x.define(0, 0, W, 0, -1, -1);
        });
        dueLocked("its prototype is locked", 0, x -> {
            x.lock(0, 2);
            x.object(0, 0, false);
        });
    }

    private static void lockedThrows() {
        CHECK.sentence("Promise 19", LIKEWISE);
        for (int how = 0; how <= 2; how++) {
            int lock = how;
            CHECK.needsObject("locked " + how, (x, r) -> x.locked(r, lock));
        }
        for (int how : new int[] {-1, 3, 4, Integer.MIN_VALUE, Integer.MAX_VALUE}) {
            CHECK.refuses("locked(0, " + how + ")", Scene::rich, x -> x.locked(0, how));
        }
    }

    private static void prototype() {
        CHECK.sentence("Promise 20", "Root s holds the prototype of what root r holds, or nothing (if there is none).");
        for (int s : EDGE_ROOTS) {
            PropertyStore x = rich();
            x.copy(9, 0);
            x.copy(10, 1);
            x.copy(11, 2);
            x.prototype(10, s);
            CHECK.due("prototype(10, " + s + ")", x.same(s, 9), true);
            x.prototype(11, s);
            CHECK.due("prototype(11, " + s + "): none", x.same(s, EMPTY), true);
        }
    }

    private static void prototypeThrows() {
        CHECK.sentence("Promise 20", "IllegalArgumentException: no such roots, or r holds nothing.");
        CHECK.needsObject("prototype", (x, r) -> x.prototype(r, 5));
        CHECK.needsRoot("prototype into", (x, s) -> x.prototype(1, s));
        CHECK.needsRoot("no prototype into", (x, s) -> x.prototype(2, s));
        CHECK.refuses("prototype into itself, empty", Scene::rich, x -> x.prototype(EMPTY, EMPTY));
    }

    /** MemoryTest looks at the collections themselves. */
    private static void stress() {
        CHECK.sentence("Promise 21", "Collects before each n-th block that is made from now on (0: when it likes).");
        for (int n : new int[] {0, 1, 2, Integer.MAX_VALUE}) {
            CHECK.leaves("stress(" + n + ")", 0, Scene::rich, x -> {
                x.stress(n);
                churn(x);
                return 0;
            });
        }
    }

    private static void stressThrows() {
        CHECK.sentence("Promise 21", "IllegalArgumentException: n is below 0.");
        for (int n : new int[] {-1, -2, Integer.MIN_VALUE}) {
            CHECK.refuses("stress(" + n + ")", Scene::rich, x -> x.stress(n));
        }
    }
}
