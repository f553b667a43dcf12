/** The promises 1 to 21, one method each, in ordinary use; BoundsTest has their edges and wrong inputs. */
public final class PromiseTest extends Scene {
    private static final Check CHECK = new Check("PromiseTest");

    public static void main(String[] args) {
        withEachStress(PromiseTest::all);
        CHECK.end();
    }

    static void all() {
        newObject();
        object();
        copy();
        same();
        operand();
        kind();
        bits();
        hold();
        get();
        put();
        putOfLength();
        define();
        defineOfFixed();
        defineOfLength();
        defineOfIndex();
        own();
        setter();
        has();
        delete();
        keys();
        key();
        lock();
        locked();
        prototype();
        stress();
    }

    private static void newObject() {
        PropertyStore x = fresh();
        x.object(0, -1, false);
        for (int r = 1; r < Check.ROOTS; r++) {
            int root = r;
            CHECK.due("keys(" + r + ") of a new store throws", Check.thrown(() -> x.keys(root)),
                    "IllegalArgumentException");
            CHECK.due("same(0, " + r + ")", x.same(0, r), false);
        }
        CHECK.due("kind() of a new store", x.kind(), 0);
        x.put(0, -2);
        x.get(0, -2);
        CHECK.due("kind() of the operand of a new store", x.kind(), 0);
    }

    private static void object() {
        PropertyStore x = fresh();
        x.object(0, -1, false);
        x.copy(1, 0);
        x.object(0, 0, true);
        x.prototype(0, 2);
        CHECK.due("object(0, 0, true): the prototype is what root 0 held", x.same(2, 1), true);
        CHECK.due("an array is not its prototype", x.same(0, 1), false);
        CHECK.dueKeys(x, 0, -1);
        CHECK.dueLength(x, 0, 0, W);
        CHECK.dueKeys(x, 1);
        x.object(23, -1, false);
        x.prototype(23, 2);
        CHECK.due("an object without prototype", x.same(2, EMPTY), true);
        CHECK.due("locked(0, 0) of a new array", x.locked(0, 0), false);
    }

    private static void copy() {
        PropertyStore x = rich();
        x.copy(5, 1);
        CHECK.due("same(5, 1) behind copy", x.same(5, 1), true);
        putNumber(x, 5, -7, 1);
        CHECK.due("a copied root holds the same object", x.has(1, -7), true);
        x.copy(5, -1);
        CHECK.due("copy(5, -1): root 5 holds nothing", x.same(5, EMPTY), true);
        x.copy(1, EMPTY);
        CHECK.due("copy of a root that holds nothing", x.same(1, EMPTY), true);
        x.copy(0, 0);
        CHECK.due("copy(0, 0)", x.has(0, -1), true);
    }

    private static void same() {
        PropertyStore x = rich();
        CHECK.due("same(0, 0)", x.same(0, 0), true);
        CHECK.due("same(0, 1)", x.same(0, 1), false);
        CHECK.due("same of two that hold nothing", x.same(EMPTY, OTHER), true);
        CHECK.due("same(0, nothing)", x.same(0, EMPTY), false);
        CHECK.due("same(nothing, 0)", x.same(EMPTY, 0), false);
    }

    private static void operand() {
        PropertyStore x = rich();
        for (int kind = 0; kind < 4; kind++) {
            x.operand(kind, Long.MIN_VALUE);
            x.put(2, -9);
            x.get(2, -9);
            CHECK.due("kind() of operand kind " + kind, x.kind(), kind);
        }
        long[] none = {0x7FF0000000000001L, 0xFFF0000000000001L, 0x7FFFFFFFFFFFFFFFL, -1L, 0x7FF8000000000000L};
        for (long bits : none) {
            x.operand(4, bits);
            x.put(2, -9);
            x.get(2, -9);
            CHECK.due("bits() of no number " + bits, x.bits(), 0x7FF8000000000000L);
        }
        long[] kept = {0x7FF0000000000000L, 0xFFF0000000000000L, 0x8000000000000000L, 1L, 0x7FEFFFFFFFFFFFFFL, 0L};
        for (long bits : kept) {
            x.operand(4, bits);
            x.put(2, -9);
            x.get(2, -9);
            CHECK.due("bits() of a number", x.bits(), bits);
        }
        x.operand(5, 2);
        x.copy(7, 2);
        x.copy(2, -1);
        x.object(8, -1, false);
        x.put(8, -2);
        x.get(8, -2);
        x.hold(9);
        CHECK.due("the operand is the object, not the root", x.same(9, 7), true);
    }

    private static void kind() {
        PropertyStore x = rich();
        CHECK.due("kind() of an object", x.kind(), 5);
        x.has(0, 0);
        x.define(0, 9, 0, 0, -1, -1);
        x.operand(3, 0);
        CHECK.due("kind() stays behind other calls", x.kind(), 5);
        Check.thrown(() -> x.get(0, -65));
        Check.thrown(() -> x.put(24, 0));
        Check.thrown(() -> x.own(EMPTY, 0));
        CHECK.due("kind() stays behind calls that throw", x.kind(), 5);
        x.get(0, 0);
        CHECK.due("kind() of a number", x.kind(), 4);
        x.own(0, -40);
        CHECK.due("kind() behind own of no property", x.kind(), 0);
        x.get(0, 0);
        x.put(0, 0);
        CHECK.due("kind() behind put", x.kind(), 0);
    }

    private static void bits() {
        PropertyStore x = rich();
        x.get(0, 3);
        CHECK.due("bits()", x.bits(), Check.number(8));
    }

    private static void hold() {
        PropertyStore x = rich();
        x.hold(23);
        CHECK.due("hold(23) of the object", x.same(23, 2), true);
        x.get(1, 4);
        x.copy(2, -1);
        x.hold(1);
        CHECK.due("hold(1) over what the result came from", x.same(1, 23), true);
    }

    private static void get() {
        PropertyStore x = rich();
        CHECK.due("get(1, -2)", x.get(1, -2), 0);
        CHECK.due("bits()", x.bits(), Check.number(9));
        CHECK.due("get(1, 3) of the prototype", x.get(1, 3), 0);
        CHECK.due("bits()", x.bits(), Check.number(8));
        CHECK.due("get(1, -1) of the prototype's length", x.get(1, -1), 0);
        CHECK.due("bits()", x.bits(), Check.number(4));
        CHECK.due("get(1, -3) of an accessor", x.get(1, -3), 1);
        x.hold(5);
        CHECK.due("the result is the getter", x.same(5, 2), true);
        x.define(1, -3, GETTER, 0, -1, -1);
        CHECK.due("get(1, -3) without getter", x.get(1, -3), 0);
        CHECK.due("kind()", x.kind(), 0);
        CHECK.due("get(1, -50) of nothing", x.get(1, -50), 0);
        CHECK.due("kind()", x.kind(), 0);
        x.object(6, 1, true);
        x.define(1, -3, GETTER, 0, 2, -1);
        CHECK.due("get(6, -3) of the prototype's accessor", x.get(6, -3), 1);
    }

    private static void put() {
        PropertyStore x = rich();
        x.operand(3, 0);
        CHECK.due("put(2, -7)", x.put(2, -7), 0);
        CHECK.due("own(2, -7)", x.own(2, -7), WEC);
        CHECK.due("put(1, -3) of an accessor", x.put(1, -3), 1);
        x.hold(5);
        CHECK.due("the result is the setter", x.same(5, 3), true);
        x.object(6, 1, false);
        x.lock(6, 2);
        CHECK.due("put of the prototype's accessor, not extensible", x.put(6, -3), 1);
        x.define(1, -3, SETTER, 0, -1, -1);
        CHECK.due("put(1, -3) without setter", x.put(1, -3), 2);
        CHECK.due("kind()", x.kind(), 0);
        CHECK.due("put(6, -3) without setter", x.put(6, -3), 2);
        CHECK.due("put(6, -2), not extensible, of the prototype", x.put(6, -2), 2);
        CHECK.due("put(6, -60), not extensible, of nothing", x.put(6, -60), 2);
        x.object(7, 1, false);
        CHECK.due("put(7, -2) over the prototype's", x.put(7, -2), 0);
        CHECK.due("own(7, -2)", x.own(7, -2), WEC);
        x.get(1, -2);
        CHECK.due("the prototype's value stays", x.bits(), Check.number(9));
        x.define(1, -2, W, 0, -1, -1);
        x.object(8, 1, false);
        CHECK.due("put(8, -2) over one that is not writable", x.put(8, -2), 2);
        CHECK.due("own(8, -2)", x.own(8, -2), -1);
        CHECK.due("put(1, -2), not writable", x.put(1, -2), 2);
        x.define(7, -2, W | E | C, W, -1, -1);
        x.operand(1, 0);
        CHECK.due("put(7, -2), writable only", x.put(7, -2), 0);
        CHECK.due("own(7, -2) keeps its attributes", x.own(7, -2), W);
        CHECK.due("kind()", x.kind(), 1);
    }

    private static void putOfLength() {
        PropertyStore x = rich();
        x.operand(0, 0);
        CHECK.due("put(0, -1) of undefined", x.put(0, -1), 3);
        x.operand(5, 0);
        CHECK.due("put(0, -1) of an object", x.put(0, -1), 3);
        CHECK.due("kind()", x.kind(), 0);
        CHECK.dueLength(x, 0, 4, W);
        CHECK.due("put(1, -1), no array, of an object", x.put(1, -1), 0);
        CHECK.due("own(1, -1)", x.own(1, -1), WEC);
        putNumber(x, 0, 4294967294L, 1);
        CHECK.dueLength(x, 0, 4294967295.0, W);
        x.define(0, 3, C, 0, -1, -1);
        x.operand(2, 0);
        CHECK.due("put(0, -1) of false", x.put(0, -1), 2);
        CHECK.dueLength(x, 0, 4, W);
        CHECK.dueKeys(x, 0, 0, 3, -1);
        x.lock(0, 2);
        CHECK.due("put(0, -1), not writable, of the same", x.put(0, -1), 2);
        x.operand(0, 0);
        CHECK.due("put(0, -1), not writable, of a bad one", x.put(0, -1), 2);
        PropertyStore y = fresh();
        y.object(0, -1, true);
        y.object(1, -1, false);
        y.define(0, -1, W, 0, -1, -1);
        CHECK.due("put(0, 0), the length not writable", y.put(0, 0), 2);
        CHECK.due("own(0, 0)", y.own(0, 0), -1);
        y.object(2, 0, false);
        CHECK.due("put(2, -1) over a length that is not writable", y.put(2, -1), 2);
        y.object(2, 0, true);
        CHECK.due("put(2, 0) of an array with an own length", y.put(2, 0), 0);
        CHECK.dueLength(y, 2, 1, W);
    }

    private static void define() {
        PropertyStore x = rich();
        CHECK.due("define(2, -8, 0)", x.define(2, -8, 0, -1, 99, 99), 0);
        CHECK.due("own(2, -8)", x.own(2, -8), 0);
        CHECK.due("kind()", x.kind(), 0);
        CHECK.due("define with flags not told", defineNumber(x, 2, -9, VALUE | E, -1, 5), 0);
        CHECK.due("own(2, -9)", x.own(2, -9), E);
        CHECK.due("bits()", x.bits(), Check.number(5));
        CHECK.due("define of a setter alone", x.define(2, -10, SETTER | C, C, -1, 0), 0);
        CHECK.due("own(2, -10)", x.own(2, -10), 64 | C);
        CHECK.due("kind() without getter", x.kind(), 0);
        CHECK.due("setter(2, -10, 5)", x.setter(2, -10, 5), true);
        CHECK.due("same(5, 0)", x.same(5, 0), true);
        CHECK.due("define of a getter none", x.define(2, -11, GETTER, 0, -1, 0), 0);
        CHECK.due("own(2, -11)", x.own(2, -11), 64);
        CHECK.due("setter not told", x.setter(2, -11, 5), false);
        putNumber(x, 2, -12, 1);
        CHECK.due("data becomes accessor", x.define(2, -12, GETTER, 0, 1, -1), 0);
        CHECK.due("own(2, -12)", x.own(2, -12), 64 | E | C);
        CHECK.due("accessor becomes data", x.define(2, -12, W, W, -1, -1), 0);
        CHECK.due("own(2, -12)", x.own(2, -12), WEC);
        CHECK.due("kind() of a value that is not told", x.kind(), 0);
        x.define(2, -12, GETTER | SETTER, 0, 1, 1);
        x.operand(3, 0);
        CHECK.due("accessor becomes data by value", x.define(2, -12, VALUE | E, 0, -1, -1), 0);
        CHECK.due("own(2, -12)", x.own(2, -12), C);
        CHECK.due("kind()", x.kind(), 3);
        x.define(2, -12, GETTER, 0, 1, 1);
        CHECK.due("the old setter is gone", x.setter(2, -12, 5), false);
        CHECK.dueKeys(x, 2, -8, -9, -10, -11, -12);
        x.lock(2, 0);
        CHECK.due("define of a new one, not extensible", x.define(2, -20, 0, 0, -1, -1), 2);
        CHECK.due("define of an old one, not extensible", x.define(2, -12, E, E, -1, -1), 0);
        x.get(0, 0);
        x.define(0, 0, VALUE, 0, -1, -1);
        CHECK.due("the result stays behind define", x.bits(), Check.number(7));
    }

    private static void defineOfFixed() {
        PropertyStore x = rich();
        defineNumber(x, 2, -8, VALUE | W | E, W, 1);
        CHECK.due("fixed, writable: configurable", x.define(2, -8, C, C, -1, -1), 2);
        CHECK.due("fixed, writable: enumerable", x.define(2, -8, E, E, -1, -1), 2);
        CHECK.due("fixed, writable: as it is", x.define(2, -8, W | E | C, W, -1, -1), 0);
        CHECK.due("fixed, writable: a getter", x.define(2, -8, GETTER, 0, -1, -1), 2);
        CHECK.due("fixed, writable: a setter", x.define(2, -8, SETTER, 0, -1, 0), 2);
        CHECK.due("fixed, writable: a value", defineNumber(x, 2, -8, VALUE, 0, 0), 0);
        CHECK.due("fixed, writable: not writable", x.define(2, -8, W, 0, -1, -1), 0);
        CHECK.due("fixed: writable", x.define(2, -8, W, W, -1, -1), 2);
        CHECK.due("fixed: the same value", defineNumber(x, 2, -8, VALUE | W, 0, 0), 0);
        CHECK.due("fixed: -0 is another value than 0", defineNumber(x, 2, -8, VALUE, 0, -0.0), 2);
        x.operand(2, 0);
        CHECK.due("fixed: another kind", x.define(2, -8, VALUE, 0, -1, -1), 2);
        CHECK.due("own(2, -8)", x.own(2, -8), 0);
        CHECK.due("bits()", x.bits(), Check.number(0));
        x.operand(5, 1);
        x.define(2, -9, VALUE, 0, -1, -1);
        CHECK.due("fixed: the same object", x.define(2, -9, VALUE, 0, -1, -1), 0);
        x.operand(5, 0);
        CHECK.due("fixed: another object", x.define(2, -9, VALUE, 0, -1, -1), 2);
        defineNumber(x, 2, -10, VALUE, 0, Double.NaN);
        x.operand(4, -1L);
        CHECK.due("fixed: no number is the same as no number", x.define(2, -10, VALUE, 0, -1, -1), 0);
        x.define(2, -11, GETTER | SETTER, 0, 0, 1);
        CHECK.due("fixed accessor: as it is", x.define(2, -11, GETTER | SETTER | E | C, 0, 0, 1), 0);
        CHECK.due("fixed accessor: another getter", x.define(2, -11, GETTER, 0, 1, -1), 2);
        CHECK.due("fixed accessor: no getter", x.define(2, -11, GETTER, 0, -1, -1), 2);
        CHECK.due("fixed accessor: another setter", x.define(2, -11, SETTER, 0, -1, 0), 2);
        CHECK.due("fixed accessor: a value", x.define(2, -11, VALUE, 0, -1, -1), 2);
        CHECK.due("fixed accessor: not writable", x.define(2, -11, W, 0, -1, -1), 2);
        CHECK.due("fixed accessor: configurable", x.define(2, -11, C, C, -1, -1), 2);
        CHECK.due("fixed accessor: enumerable", x.define(2, -11, E, E, -1, -1), 2);
        CHECK.due("own(2, -11)", x.own(2, -11), 64);
    }

    private static void dueLengthOf(int kind, double number, int answer, double length) {
        PropertyStore x = array(1, 3);
        x.object(1, -1, false);
        x.operand(kind, kind == 5 ? 1 : Check.number(number));
        String call = "define of length with kind " + kind + ", " + number;
        CHECK.due(call, x.define(0, -1, VALUE, 0, -1, -1), answer);
        CHECK.dueLength(x, 0, length, W);
    }

    private static void defineOfLength() {
        dueLengthOf(0, 0, 3, 4);
        dueLengthOf(1, 9, 0, 0);
        dueLengthOf(2, 9, 0, 0);
        dueLengthOf(3, 9, 0, 1);
        dueLengthOf(5, 9, 3, 4);
        double[] good = {0, 1, 2, 3, 4, 5, 1000000, 2147483647.0, 2147483648.0, 4294967294.0, 4294967295.0};
        for (double d : good) {
            dueLengthOf(4, d, 0, d);
        }
        dueLengthOf(4, -0.0, 0, 0);
        double[] bad = {0.5, 1.5, -1, -4294967295.0, 4294967295.5, 4294967296.0, 1e300, 1e-300, Double.MIN_VALUE,
            Double.NaN, Double.POSITIVE_INFINITY, Double.NEGATIVE_INFINITY};
        for (double d : bad) {
            dueLengthOf(4, d, 3, 4);
        }
        PropertyStore x = array(0, 1, 2, 5, 7);
        CHECK.due("bad ahead of refusals", defineNumber(x, 0, -1, VALUE | C, C, 0.5), 3);
        CHECK.due("configurable", defineNumber(x, 0, -1, VALUE | C, C, 1), 2);
        CHECK.due("enumerable", defineNumber(x, 0, -1, VALUE | E, E, 1), 2);
        CHECK.due("getter", x.define(0, -1, GETTER, 0, -1, -1), 2);
        CHECK.dueKeys(x, 0, 0, 1, 2, 5, 7, -1);
        CHECK.dueLength(x, 0, 8, W);
        x.define(0, 2, C, 0, -1, -1);
        CHECK.due("a deletion refused", defineNumber(x, 0, -1, VALUE | W, 0, 1), 2);
        CHECK.dueLength(x, 0, 3, 0);
        CHECK.dueKeys(x, 0, 0, 1, 2, -1);
        CHECK.due("not writable, lower", defineNumber(x, 0, -1, VALUE, 0, 2), 2);
        CHECK.due("not writable, the same", defineNumber(x, 0, -1, VALUE | W | E | C, 0, 3), 0);
        CHECK.due("not writable, higher", defineNumber(x, 0, -1, VALUE, 0, 4), 2);
        CHECK.due("not writable, bad", defineNumber(x, 0, -1, VALUE, 0, -3), 3);
        CHECK.due("writable again", x.define(0, -1, W, W, -1, -1), 2);
        CHECK.dueLength(x, 0, 3, 0);
        PropertyStore y = array(0, 1, 2);
        CHECK.due("lower and not writable", defineNumber(y, 0, -1, VALUE | W, 0, 1), 0);
        CHECK.dueLength(y, 0, 1, 0);
        CHECK.dueKeys(y, 0, 0, -1);
        PropertyStore z = array(0, 1, 2);
        CHECK.due("higher and not writable", defineNumber(z, 0, -1, VALUE | W, 0, 9), 0);
        CHECK.dueLength(z, 0, 9, 0);
        z.object(1, -1, false);
        CHECK.due("length of no array", defineNumber(z, 1, -1, VALUE, 0, 0.5), 0);
        CHECK.due("own(1, -1)", z.own(1, -1), 0);
        z.object(2, -1, true);
        putNumber(z, 2, 3, 1);
        z.lock(2, 0);
        CHECK.due("not extensible, lower", defineNumber(z, 2, -1, VALUE, 0, 0), 0);
        CHECK.dueKeys(z, 2, -1);
    }

    private static void defineOfIndex() {
        PropertyStore x = array();
        CHECK.due("define(0, 6)", x.define(0, 6, 0, 0, -1, -1), 0);
        CHECK.dueLength(x, 0, 7, W);
        CHECK.due("define(0, 2) below the length", x.define(0, 2, 0, 0, -1, -1), 0);
        CHECK.dueLength(x, 0, 7, W);
        CHECK.due("define(0, 7) of an accessor", x.define(0, 7, GETTER | C, C, 0, -1), 0);
        CHECK.dueLength(x, 0, 8, W);
        x.define(0, -1, W, 0, -1, -1);
        CHECK.due("define(0, 8), length not writable", x.define(0, 8, 0, 0, -1, -1), 2);
        CHECK.due("define(0, 3), length not writable", x.define(0, 3, 0, 0, -1, -1), 0);
        CHECK.due("delete(0, 7)", x.delete(0, 7), true);
        CHECK.dueLength(x, 0, 8, 0);
        CHECK.due("define(0, 7) again, below the length", x.define(0, 7, 0, 0, -1, -1), 0);
        PropertyStore y = array(1);
        y.lock(0, 0);
        CHECK.due("define(0, 5), not extensible", y.define(0, 5, 0, 0, -1, -1), 2);
        CHECK.due("define(0, 0), not extensible", y.define(0, 0, 0, 0, -1, -1), 2);
        CHECK.dueLength(y, 0, 2, W);
        PropertyStore z = array(4294967294L);
        CHECK.dueLength(z, 0, 4294967295.0, W);
        CHECK.dueKeys(z, 0, 4294967294L, -1);
    }

    private static void own() {
        PropertyStore x = rich();
        CHECK.due("own(1, -2)", x.own(1, -2), WEC);
        CHECK.due("bits()", x.bits(), Check.number(9));
        CHECK.due("own(1, 0) of the prototype's", x.own(1, 0), -1);
        CHECK.due("kind()", x.kind(), 0);
        CHECK.due("own(1, -3)", x.own(1, -3), 64 | C);
        x.hold(5);
        CHECK.due("the result is the getter", x.same(5, 2), true);
        x.define(1, -3, GETTER | E, E, -1, -1);
        CHECK.due("own(1, -3)", x.own(1, -3), 64 | E | C);
        CHECK.due("kind() without getter", x.kind(), 0);
        CHECK.due("own(0, -1)", x.own(0, -1), W);
    }

    private static void setter() {
        PropertyStore x = rich();
        CHECK.due("setter(1, -2, 5) of data", x.setter(1, -2, 5), false);
        CHECK.due("setter(1, -40, 5) of nothing", x.setter(1, -40, 5), false);
        x.object(6, 1, false);
        CHECK.due("setter(6, -3, 5) of the prototype's", x.setter(6, -3, 5), false);
        CHECK.due("root 5 holds nothing", x.same(5, EMPTY), true);
        CHECK.due("setter(1, -3, 5)", x.setter(1, -3, 5), true);
        CHECK.due("same(5, 3)", x.same(5, 3), true);
        CHECK.due("the result stays behind setter", x.kind(), 5);
        x.copy(5, 1);
        CHECK.due("setter(5, -3, 5)", x.setter(5, -3, 5), true);
        CHECK.due("same(5, 3)", x.same(5, 3), true);
        x.define(1, -3, SETTER, 0, -1, -1);
        CHECK.due("setter(1, -3, 5) without one", x.setter(1, -3, 5), false);
        CHECK.due("same(5, 3) still", x.same(5, 3), true);
    }

    private static void has() {
        PropertyStore x = rich();
        CHECK.due("has(1, -2)", x.has(1, -2), true);
        CHECK.due("has(1, 0) of the prototype's", x.has(1, 0), true);
        CHECK.due("has(1, -1) of the prototype's", x.has(1, -1), true);
        CHECK.due("has(0, -2) of what the other has", x.has(0, -2), false);
        CHECK.due("has(1, -3) of an accessor", x.has(1, -3), true);
        x.object(6, 1, false);
        x.object(7, 6, false);
        CHECK.due("has(7, 3) three prototypes on", x.has(7, 3), true);
        CHECK.due("has(7, 1)", x.has(7, 1), false);
        CHECK.due("the result stays behind has", x.kind(), 5);
    }

    private static void delete() {
        PropertyStore x = rich();
        CHECK.due("delete(1, -2)", x.delete(1, -2), true);
        CHECK.due("has(1, -2)", x.has(1, -2), false);
        CHECK.due("delete(1, -2) again", x.delete(1, -2), true);
        CHECK.due("delete(1, 0) of the prototype's", x.delete(1, 0), true);
        CHECK.due("has(1, 0) still", x.has(1, 0), true);
        CHECK.due("delete(0, -1)", x.delete(0, -1), false);
        CHECK.due("delete(0, 3)", x.delete(0, 3), true);
        CHECK.dueLength(x, 0, 4, W);
        CHECK.dueKeys(x, 0, 0, -1);
        x.define(0, 0, C, 0, -1, -1);
        CHECK.due("delete(0, 0), not configurable", x.delete(0, 0), false);
        CHECK.due("own(0, 0)", x.own(0, 0), W | E);
        x.lock(1, 0);
        CHECK.due("delete(1, -3), not extensible", x.delete(1, -3), true);
    }

    private static void keys() {
        PropertyStore x = rich();
        CHECK.due("keys(0) of an array", x.keys(0), 3);
        CHECK.due("keys(1)", x.keys(1), 3);
        CHECK.due("keys(2)", x.keys(2), 0);
        x.define(2, -2, 0, 0, -1, -1);
        CHECK.due("keys(2) with one not enumerable", x.keys(2), 1);
        x.define(2, -2, E, 0, -1, -1);
        CHECK.due("keys(2) behind another definition", x.keys(2), 1);
        for (long key = -64; key < 100; key++) {
            x.define(3, key, C, C, -1, -1);
        }
        CHECK.due("keys(3) with all names and 100 indices", x.keys(3), 164);
    }

    private static void key() {
        PropertyStore x = fresh();
        x.object(0, -1, false);
        for (long key : new long[] {-5, 9, -2, 4294967294L, 0, -64, 3}) {
            x.put(0, key);
        }
        CHECK.dueKeys(x, 0, 0, 3, 9, 4294967294L, -5, -2, -64);
        x.delete(0, -5);
        x.delete(0, 3);
        x.put(0, -5);
        x.put(0, 3);
        CHECK.dueKeys(x, 0, 0, 3, 9, 4294967294L, -2, -64, -5);
        x.define(0, -2, GETTER, 0, 0, -1);
        x.define(0, -2, VALUE, 0, -1, -1);
        x.put(0, -64);
        CHECK.dueKeys(x, 0, 0, 3, 9, 4294967294L, -2, -64, -5);
        x.object(1, 0, true);
        x.put(1, -3);
        x.put(1, 1);
        CHECK.dueKeys(x, 1, 1, -1, -3);
    }

    private static void lock() {
        PropertyStore x = rich();
        x.lock(1, 0);
        CHECK.due("put(1, -9) behind lock 0", x.put(1, -9), 2);
        CHECK.due("own(1, -2)", x.own(1, -2), WEC);
        x.lock(1, 1);
        CHECK.due("own(1, -2)", x.own(1, -2), W | E);
        CHECK.due("own(1, -3)", x.own(1, -3), 64);
        x.lock(1, 0);
        CHECK.due("own(1, -2) behind a lesser lock", x.own(1, -2), W | E);
        x.lock(1, 2);
        CHECK.due("own(1, -2)", x.own(1, -2), E);
        CHECK.due("own(1, -3)", x.own(1, -3), 64);
        CHECK.due("get(1, -3) of a frozen one's accessor", x.get(1, -3), 1);
        CHECK.due("the prototype is not locked", x.locked(0, 0), false);
        x.lock(0, 2);
        CHECK.dueLength(x, 0, 4, 0);
        CHECK.due("own(0, 3)", x.own(0, 3), E);
        x.object(5, -1, true);
        x.lock(5, 1);
        CHECK.dueLength(x, 5, 0, W);
        CHECK.due("put(5, 0) of a sealed array", x.put(5, 0), 2);
    }

    private static void dueLocked(PropertyStore x, int r, boolean first, boolean second, boolean third) {
        CHECK.due("locked(" + r + ", 0)", x.locked(r, 0), first);
        CHECK.due("locked(" + r + ", 1)", x.locked(r, 1), second);
        CHECK.due("locked(" + r + ", 2)", x.locked(r, 2), third);
    }

    private static void locked() {
        PropertyStore x = rich();
        dueLocked(x, 2, false, false, false);
        x.lock(2, 0);
        dueLocked(x, 2, true, true, true);
        x.lock(1, 0);
        dueLocked(x, 1, true, false, false);
        x.delete(1, -2);
        x.delete(1, 4);
        x.define(1, -3, C, 0, -1, -1);
        dueLocked(x, 1, true, true, true);
        x.object(5, -1, true);
        x.lock(5, 0);
        dueLocked(x, 5, true, true, false);
        x.define(5, -1, W, 0, -1, -1);
        dueLocked(x, 5, true, true, true);
        x.lock(0, 1);
        dueLocked(x, 0, true, true, false);
        x.lock(0, 2);
        dueLocked(x, 0, true, true, true);
        x.object(6, -1, false);
        x.define(6, -2, 0, 0, -1, -1);
        dueLocked(x, 6, false, false, false);
    }

    private static void prototype() {
        PropertyStore x = rich();
        x.prototype(1, 5);
        CHECK.due("same(5, 0)", x.same(5, 0), true);
        x.prototype(0, 5);
        CHECK.due("no prototype: nothing", x.same(5, EMPTY), true);
        x.prototype(1, 1);
        CHECK.due("prototype(1, 1)", x.same(1, 0), true);
        x.prototype(1, 1);
        CHECK.due("prototype(1, 1): nothing", x.same(1, EMPTY), true);
        CHECK.due("the result stays behind prototype", x.kind(), 5);
    }

    /** What a store shows must not change by when it collects; MemoryTest shows that it does collect. */
    private static void stress() {
        String calm = Check.picture(rich());
        for (int n : new int[] {0, 1, 2, 3, 5, Integer.MAX_VALUE}) {
            PropertyStore x = rich();
            x.stress(n);
            for (int i = 0; i < 40; i++) {
                x.object(13, i > 0 ? 13 : -1, i % 2 == 0);
            }
            x.copy(13, -1);
            CHECK.due("a picture behind stress(" + n + ")", Check.picture(x), calm);
        }
    }
}
