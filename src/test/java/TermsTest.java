import java.util.ArrayList;
import java.util.List;
import java.util.function.Consumer;

/**
 * The sentences ahead of the promises that name a boundary case, one method each: calls, roots, keys,
 * values, the operand, the result, properties, getting, putting, deleting, the order of keys, memory.
 * DefineTest has those on definitions.
 */
public final class TermsTest extends Scene {
    private static final Check CHECK = new Check("TermsTest");

    public static void main(String[] args) {
        withEachStress(TermsTest::all);
        CHECK.end();
    }

    static void all() {
        lastCall();
        rootsHoldObjects();
        staysByRoot();
        staysByOperand();
        staysByResult();
        staysByPrototype();
        staysByValue();
        staysByGetter();
        staysBySetter();
        staysByAll();
        hasRoom();
        throwingChangesNothing();
        rootsMayBeTheSame();
        indices();
        names();
        lengthIsNameZero();
        keysDoNotWrapAround();
        kinds();
        numbers();
        noNumbers();
        objectsAsValues();
        sameValues();
        operand();
        result();
        operandAndResultStay();
        formsOfProperties();
        accessors();
        noTwoWithOneKey();
        prototypeNeverChanges();
        extensibleAtFirst();
        ownAheadOfPrototype();
        getOfNothing();
        getOfAccessor();
        putOfOwnData();
        putOfOwnDataKeepsAttributes();
        putOfOwnAccessor();
        putOfPrototypesAccessor();
        putOfPrototypesData();
        putOfNothing();
        putMakesAllTrue();
        delete();
        orderOfKeys();
        collectsUnseen();
        collectsUnseenWhenTakenBack();
    }

    /** A store that has had one call. */
    private static PropertyStore behindOneCall() {
        PropertyStore x = new PropertyStore();
        x.stress(stress);
        return x;
    }

    private static void lastCall() {
        CHECK.sentence("What it is", "An object is used for at most 512 calls after it has been made");
        PropertyStore deep = behindOneCall();
        deep.object(0, -1, true);
        deep.operand(3, 0);
        deep.put(0, -2);
        for (int call = 5; call <= 510; call++) {
            deep.object(0, 0, true);
        }
        CHECK.due("call 511: get through 506 arrays", deep.get(0, -2), 0);
        CHECK.due("call 512: kind()", deep.kind(), 3);
        PropertyStore wide = behindOneCall();
        wide.object(0, -1, true);
        for (int call = 3; call <= 510; call++) {
            wide.put(0, call % 2 == 0 ? call : LAST_INDEX - call);
        }
        CHECK.due("call 511: the last of 508 indices", wide.key(0, 507), LAST_INDEX - 3);
        CHECK.due("call 512: keys(0)", wide.keys(0), 509);
        PropertyStore last = behindOneCall();
        for (int call = 2; call <= 511; call++) {
            last.object(call % 24, -1, true);
        }
        CHECK.due("call 512: object throws", Check.thrown(() -> last.object(0, 0, true)), "nothing");
    }

    private static void rootsHoldObjects() {
        CHECK.sentence("Terms", "ROOTS 0 .. 23 each hold an OBJECT or nothing");
        PropertyStore x = fresh();
        for (int r = 0; r < Check.ROOTS; r++) {
            x.object(r, -1, r % 2 == 0);
            putNumber(x, r, -2, r);
        }
        for (int r = 0; r < Check.ROOTS; r++) {
            CHECK.dueNumber(x, r, -2, r);
            for (int s = 0; s < r; s++) {
                CHECK.due("same(" + r + ", " + s + ")", x.same(r, s), false);
            }
        }
    }

    /** An object in root 0 that is known by a number. */
    private static PropertyStore marked() {
        PropertyStore x = fresh();
        x.object(0, -1, false);
        putNumber(x, 0, -2, 77);
        x.operand(0, 0);
        x.object(1, -1, false);
        return x;
    }

    private static void stays(String part, Consumer<PropertyStore> leave, Consumer<PropertyStore> findAgain) {
        CHECK.sentence("Terms", part);
        PropertyStore x = marked();
        leave.accept(x);
        churn(x);
        findAgain.accept(x);
        CHECK.due("own(0, -2)", x.own(0, -2), WEC);
        CHECK.due("keys(0)", x.keys(0), 1);
        CHECK.due("bits()", x.bits(), Check.number(77));
    }

    private static void staysByRoot() {
        stays("An object is there as long as a root", x -> x.copy(23, 0), x -> x.copy(0, 23));
    }

    private static void staysByOperand() {
        stays("An object is there as long as a root, the operand or the result leads to it", x -> {
            x.operand(5, 0);
            x.copy(0, -1);
        }, x -> {
            x.put(1, -3);
            x.get(1, -3);
            x.hold(0);
        });
    }

    private static void staysByResult() {
        stays("the operand or the result leads to it", x -> {
            x.operand(5, 0);
            x.put(1, -3);
            x.get(1, -3);
            x.delete(1, -3);
            x.operand(0, 0);
            x.copy(0, -1);
        }, x -> x.hold(0));
    }

    private static void staysByPrototype() {
        stays("or an object that is there does (by its prototype", x -> {
            x.object(1, 0, true);
            x.copy(0, -1);
        }, x -> x.prototype(1, 0));
    }

    private static void staysByValue() {
        stays("(by its prototype, a value", x -> {
            x.operand(5, 0);
            x.put(1, 3);
            x.operand(0, 0);
            x.copy(0, -1);
        }, x -> {
            CHECK.due("get(1, 3)", x.get(1, 3), 0);
            x.hold(0);
        });
    }

    private static void staysByGetter() {
        stays("a getter or setter)", x -> {
            x.define(1, -3, GETTER, 0, 0, -1);
            x.copy(0, -1);
        }, x -> {
            CHECK.due("get(1, -3)", x.get(1, -3), 1);
            x.hold(0);
        });
    }

    private static void staysBySetter() {
        stays("a getter or setter)", x -> {
            x.define(1, -3, SETTER, 0, -1, 0);
            x.copy(0, -1);
        }, x -> CHECK.due("setter(1, -3, 0)", x.setter(1, -3, 0), true));
    }

    /** A value's prototype's getter's setter, and a ring: each leads back to what leads to it. */
    private static void staysByAll() {
        stays("or an object that is there does (by its prototype, a value, a getter or setter).", x -> {
            x.object(2, -1, false);
            x.define(2, -4, SETTER, 0, -1, 0);
            x.object(3, -1, true);
            x.define(3, 7, GETTER, 0, 2, -1);
            x.object(4, 3, false);
            x.operand(5, 4);
            x.put(1, -5);
            x.operand(5, 1);
            x.put(0, -6);
            x.delete(0, -6);
            x.put(2, -6);
            for (int r = 0; r < 5; r++) {
                x.copy(r, r == 1 ? 1 : -1);
            }
        }, x -> {
            x.get(1, -5);
            x.hold(4);
            x.prototype(4, 3);
            x.get(3, 7);
            x.hold(2);
            x.setter(2, -4, 0);
            x.get(2, -6);
            x.hold(5);
            CHECK.due("the ring is closed", x.same(5, 1), true);
        });
    }

    private static void hasRoom() {
        CHECK.sentence("Terms", "There is always room.");
        PropertyStore x = fresh();
        x.object(0, -1, true);
        for (int n = 0; n < 250; n++) {
            CHECK.due("put", x.put(0, n), 0);
            CHECK.due("delete", x.delete(0, n), true);
        }
        CHECK.dueLength(x, 0, 250, W);
        PropertyStore y = fresh();
        y.object(0, -1, true);
        for (int n = 0; n < 160; n++) {
            y.object(1, 0, true);
            CHECK.due("put on the newest", y.put(1, 5), 0);
            CHECK.due("put on all", y.put(0, n), 0);
        }
        CHECK.due("keys(0)", y.keys(0), 161);
        CHECK.due("keys(1)", y.keys(1), 2);
    }

    private static List<Consumer<PropertyStore>> throwingCalls() {
        List<Consumer<PropertyStore>> calls = new ArrayList<>();
        calls.add(x -> x.object(24, -1, true));
        calls.add(x -> x.object(0, EMPTY, true));
        calls.add(x -> x.copy(0, 24));
        calls.add(x -> x.same(0, -1));
        calls.add(x -> x.operand(6, 0));
        calls.add(x -> x.operand(5, EMPTY));
        calls.add(x -> x.bits());
        calls.add(x -> x.hold(-1));
        calls.add(x -> x.get(0, -65));
        calls.add(x -> x.put(0, LAST_INDEX + 1));
        calls.add(x -> x.define(0, 9, 64, 0, -1, -1));
        calls.add(x -> x.define(0, 9, GETTER | SETTER, 0, 1, EMPTY));
        calls.add(x -> x.own(EMPTY, -2));
        calls.add(x -> x.setter(1, -3, 24));
        calls.add(x -> x.has(EMPTY, 0));
        calls.add(x -> x.delete(0, Long.MIN_VALUE));
        calls.add(x -> x.keys(EMPTY));
        calls.add(x -> x.key(0, 3));
        calls.add(x -> x.lock(0, 3));
        calls.add(x -> x.locked(0, -1));
        calls.add(x -> x.prototype(1, 24));
        calls.add(x -> x.stress(-1));
        return calls;
    }

    private static void throwingChangesNothing() {
        CHECK.sentence("Terms", "A call that throws changes nothing.");
        PropertyStore x = rich();
        for (Consumer<PropertyStore> call : throwingCalls()) {
            CHECK.due("it throws", !Check.thrown(() -> call.accept(x)).equals("nothing"), true);
        }
        CHECK.due("a picture behind all of them", Check.picture(x), Check.picture(rich()));
    }

    private static void rootsMayBeTheSame() {
        CHECK.sentence("Terms", "Roots that a call tells may be one and the same: it is as they hold ahead of it.");
        PropertyStore x = rich();
        x.copy(5, 1);
        x.object(5, 5, false);
        x.prototype(5, 6);
        CHECK.due("object(5, 5): what root 5 held is the prototype", x.same(6, 1), true);
        x.prototype(5, 5);
        CHECK.due("prototype(5, 5)", x.same(5, 1), true);
        x.copy(5, 5);
        CHECK.due("copy(5, 5)", x.same(5, 1), true);
        CHECK.due("same(5, 5)", x.same(5, 5), true);
        CHECK.due("define(5, -9) with itself as getter and setter", x.define(5, -9, GETTER | SETTER, 0, 5, 5), 0);
        x.get(5, -9);
        x.hold(7);
        CHECK.due("the getter is the object itself", x.same(7, 1), true);
        CHECK.due("setter(5, -3, 5)", x.setter(5, -3, 5), true);
        CHECK.due("root 5 holds the setter", x.same(5, 3), true);
        CHECK.due("setter(7, -9, 7)", x.setter(7, -9, 7), true);
        CHECK.due("root 7 holds itself", x.same(7, 1), true);
        x.operand(5, 3);
        x.put(3, -8);
        x.get(3, -8);
        x.hold(3);
        CHECK.due("a value of its own object", x.same(3, 5), true);
    }

    private static void indices() {
        CHECK.sentence("Terms", "A KEY is a number: 0 .. 4294967294 an INDEX");
        long[] rising = {0, 1, 2147483647L, 2147483648L, 4294967293L, LAST_INDEX};
        PropertyStore x = fresh();
        x.object(0, -1, false);
        x.put(0, -5);
        for (int k = rising.length - 1; k >= 0; k--) {
            CHECK.due("put(0, " + rising[k] + ")", putNumber(x, 0, rising[k], k), 0);
        }
        CHECK.dueKeys(x, 0, 0, 1, 2147483647L, 2147483648L, 4294967293L, LAST_INDEX, -5);
        for (int k = 0; k < rising.length; k++) {
            CHECK.dueNumber(x, 0, rising[k], k);
        }
        PropertyStore y = array();
        for (long index : rising) {
            y.put(0, index);
            CHECK.dueLength(y, 0, index + 1, W);
        }
        CHECK.refuses("put of the first key above the indices", Scene::rich, z -> z.put(0, LAST_INDEX + 1));
    }

    private static void names() {
        CHECK.sentence("Terms", "-1 - n, for n 0 .. 63, the NAME n");
        PropertyStore x = fresh();
        x.object(0, -1, false);
        for (int n = 63; n >= 0; n--) {
            CHECK.due("put of name " + n, putNumber(x, 0, -1 - n, n), 0);
        }
        CHECK.due("keys(0)", x.keys(0), 64);
        for (int n = 63; n >= 0; n--) {
            CHECK.due("key(0, " + (63 - n) + ")", x.key(0, 63 - n), -1 - n);
            CHECK.dueNumber(x, 0, -1 - n, n);
        }
        CHECK.refuses("put of name 64", Scene::rich, z -> z.put(0, LAST_NAME - 1));
    }

    private static void lengthIsNameZero() {
        CHECK.sentence("Terms", "name 0 (key -1) is LENGTH");
        PropertyStore x = array(4);
        CHECK.dueKeys(x, 0, 4, -1);
        CHECK.dueNumber(x, 0, -1, 5);
        CHECK.due("get(0, 0): the index 0 is not LENGTH", x.get(0, 0), 0);
        CHECK.due("kind()", x.kind(), 0);
        CHECK.due("own(0, -2): the name 1 is not LENGTH", x.own(0, -2), -1);
    }

    private static void keysDoNotWrapAround() {
        CHECK.sentence("Terms", "A KEY is a number");
        long[] keys = {-2, LAST_INDEX, -64, 4294967232L, -33, 4294967263L, 0, 2147483648L};
        PropertyStore x = fresh();
        x.object(0, -1, false);
        for (int k = 0; k < keys.length; k++) {
            putNumber(x, 0, keys[k], k);
        }
        CHECK.due("keys(0)", x.keys(0), keys.length);
        for (int k = 0; k < keys.length; k++) {
            CHECK.dueNumber(x, 0, keys[k], k);
        }
        CHECK.due("delete(0, -2)", x.delete(0, -2), true);
        CHECK.due("has(0, 4294967294), whose lower half is the same", x.has(0, LAST_INDEX), true);
        for (long key : new long[] {4294967295L, 4294967296L, -4294967296L, -4294967298L, -65}) {
            CHECK.refuses("has of key " + key, Scene::rich, y -> y.has(1, key));
        }
    }

    private static void kinds() {
        CHECK.sentence("Terms", "A VALUE is of a KIND: 0 undefined, 1 null, 2 false, 3 true, 4 a NUMBER");
        PropertyStore x = fresh();
        x.object(0, -1, false);
        for (int kind = 0; kind <= 5; kind++) {
            x.operand(kind, 0);
            CHECK.due("put of kind " + kind, x.put(0, -2), 0);
            CHECK.due("get of kind " + kind, x.get(0, -2), 0);
            CHECK.due("kind()", x.kind(), kind);
            CHECK.due("bits() of kind " + kind + " throws", Check.thrown(() -> x.bits()),
                    kind == 4 ? "nothing" : "IllegalStateException");
            CHECK.due("hold(1) of kind " + kind + " throws", Check.thrown(() -> x.hold(1)),
                    kind == 5 ? "nothing" : "IllegalStateException");
        }
        for (int kind : new int[] {-1, 6}) {
            CHECK.refuses("operand of kind " + kind, Scene::rich, y -> y.operand(kind, 0));
        }
    }

    private static void numbers() {
        CHECK.sentence("Terms", "4 a NUMBER (the 64 bits of an IEEE double");
        PropertyStore x = fresh();
        x.object(0, -1, false);
        for (int bit = 0; bit < 64; bit++) {
            dueOperandBits(x, 1L << bit, 1L << bit);
        }
        PropertyStore y = fresh();
        y.object(0, -1, false);
        long bits = 0x0123456789ABCDEFL;
        for (int n = 0; n < 64; n++) {
            // Some of the lowest bits are there in each turn: with exponent 2047 it would be no number.
            boolean none = (bits >>> 52 & 2047) == 2047;
            dueOperandBits(y, bits, none ? 0x7FF8000000000000L : bits);
            bits = Long.rotateLeft(bits, 1);
        }
    }

    private static void objectsAsValues() {
        CHECK.sentence("Terms", "are taken for 7FF8000000000000, hexadecimal), 5 an object.");
        PropertyStore x = fresh();
        for (int r = 0; r < Check.ROOTS; r++) {
            x.object(r, -1, r % 2 == 0);
        }
        for (int r = 0; r < Check.ROOTS; r++) {
            x.operand(5, r);
            x.put(0, r);
        }
        for (int r = Check.ROOTS - 1; r > 1; r--) {
            CHECK.due("get(0, " + r + ")", x.get(0, r), 0);
            CHECK.due("kind()", x.kind(), 5);
            x.hold(1);
            CHECK.due("the value is the object of root " + r, x.same(1, r), true);
            CHECK.due("it is no other root's", x.same(1, r - 1), r == 2);
        }
    }

    private static void noNumbers() {
        CHECK.sentence("Terms", "all that are no number, exponent 2047 and some of the lowest 52 bits, "
                + "are taken for 7FF8000000000000, hexadecimal");
        long[] none = {0x7FF0000000000001L, 0x7FF8000000000000L, 0x7FF8000000000001L, 0x7FFFFFFFFFFFFFFFL,
            0xFFF0000000000001L, 0xFFF8000000000000L, 0xFFFFFFFFFFFFFFFFL};
        long[] numbers = {0x7FF0000000000000L, 0xFFF0000000000000L, 0x7FEFFFFFFFFFFFFFL, 0xFFEFFFFFFFFFFFFFL,
            0L, 0x8000000000000000L, 1L, 0x8000000000000001L, 0x000FFFFFFFFFFFFFL, 0x0010000000000000L};
        PropertyStore x = fresh();
        x.object(0, -1, false);
        for (long bits : none) {
            dueOperandBits(x, bits, 0x7FF8000000000000L);
        }
        for (long bits : numbers) {
            dueOperandBits(x, bits, bits);
        }
    }

    private static void dueOperandBits(PropertyStore x, long told, long due) {
        x.operand(4, told);
        x.put(0, -2);
        x.get(0, -2);
        CHECK.due("kind() of the bits " + told, x.kind(), 4);
        CHECK.due("bits() of the bits " + told, x.bits(), due);
    }

    /** Two kinds of values each differ by one thing alone; the objects are in the roots 1 and 2. */
    private static void sameValues() {
        CHECK.sentence("Terms", "Two values are the SAME when they are of one kind, "
                + "and numbers have the same bits, objects are one.");
        long[][] values = {{0, 0}, {1, 0}, {2, 0}, {3, 0}, {4, 0}, {4, Long.MIN_VALUE}, {4, 1}, {4, Check.number(1)},
            {4, Check.number(-1)}, {4, 0x7FF0000000000000L}, {4, 0xFFF0000000000000L}, {4, 0x7FF8000000000000L},
            {5, 1}, {5, 2}};
        for (long[] a : values) {
            for (long[] b : values) {
                CHECK.leaves("define of kind " + b[0] + ", " + b[1] + " over " + a[0] + ", " + a[1], a == b ? 0 : 2,
                        () -> fixedWith(a, b), x -> x.define(0, -2, VALUE, 0, -1, -1));
            }
        }
        CHECK.leaves("no number over no number", 0,
                () -> fixedWith(new long[] {4, -1L}, new long[] {4, 0x7FF0000000000001L}),
                x -> x.define(0, -2, VALUE, 0, -1, -1));
        CHECK.leaves("undefined with other bits", 0, () -> fixedWith(new long[] {0, 1}, new long[] {0, 2}),
                x -> x.define(0, -2, VALUE, 0, -1, -1));
    }

    private static PropertyStore fixedWith(long[] value, long[] operand) {
        PropertyStore x = fresh();
        x.object(0, -1, false);
        x.object(1, -1, false);
        x.object(2, -1, false);
        x.operand((int) value[0], value[1]);
        x.define(0, -2, VALUE, 0, -1, -1);
        x.operand((int) operand[0], operand[1]);
        return x;
    }

    private static void dueOperandKind(String call, PropertyStore x, int due) {
        x.object(10, -1, false);
        x.put(10, -2);
        x.get(10, -2);
        CHECK.due(call + ": kind of the operand", x.kind(), due);
    }

    private static void operand() {
        CHECK.sentence("Terms", "THE OPERAND is a value: that which was told last (undefined at first).");
        PropertyStore x = fresh();
        dueOperandKind("a new store", x, 0);
        x.operand(4, 5);
        x.operand(3, 5);
        dueOperandKind("operand(3)", x, 3);
        dueOperandKind("the same once more", x, 3);
        Check.thrown(() -> x.operand(6, 0));
        Check.thrown(() -> x.operand(5, 24));
        Check.thrown(() -> x.operand(5, EMPTY));
        dueOperandKind("operand that throws", x, 3);
        x.operand(0, 5);
        dueOperandKind("operand(0)", x, 0);
    }

    private static void dueTheObject(String call, PropertyStore x) {
        CHECK.due(call + ": kind()", x.kind(), 5);
        x.hold(9);
        CHECK.due(call + ": the result is the same object", x.same(9, 2), true);
    }

    private static void result() {
        CHECK.sentence("Terms", "THE RESULT is a value, too: that which the latest call of get, put, own "
                + "that did not throw gave (undefined at first).");
        CHECK.due("kind() of a new store", fresh().kind(), 0);
        PropertyStore x = rich();
        for (Consumer<PropertyStore> call : throwingCalls()) {
            Check.thrown(() -> call.accept(x));
            dueTheObject("a call that throws", x);
        }
        for (Consumer<PropertyStore> call : callsWithoutResult()) {
            call.accept(x);
            dueTheObject("a call without result", x);
        }
        x.own(0, 0);
        CHECK.due("kind() behind own", x.kind(), 4);
        x.get(0, 1);
        CHECK.due("kind() behind get of nothing", x.kind(), 0);
        x.own(1, -3);
        dueTheObject("own of an accessor", x);
        x.own(0, 1);
        CHECK.due("kind() behind own of nothing", x.kind(), 0);
        x.get(0, 0);
        x.put(0, 0);
        CHECK.due("kind() behind put", x.kind(), 0);
        x.get(1, -3);
        dueTheObject("get of an accessor", x);
        x.operand(0, 0);
        x.put(0, LENGTH);
        CHECK.due("kind() behind a bad put", x.kind(), 0);
        x.get(1, -3);
        x.lock(2, 2);
        x.put(2, -2);
        CHECK.due("kind() behind a put that is refused", x.kind(), 0);
    }

    private static List<Consumer<PropertyStore>> callsWithoutResult() {
        List<Consumer<PropertyStore>> calls = new ArrayList<>();
        calls.add(x -> x.object(12, -1, true));
        calls.add(x -> x.copy(13, 1));
        calls.add(x -> x.same(0, 1));
        calls.add(x -> x.operand(3, 0));
        calls.add(x -> x.define(12, 0, VALUE, 0, -1, -1));
        calls.add(x -> x.define(12, LENGTH, C, C, -1, -1));
        calls.add(x -> x.setter(1, -3, 13));
        calls.add(x -> x.setter(1, -2, 13));
        calls.add(x -> x.has(0, 0));
        calls.add(x -> x.delete(12, -2));
        calls.add(x -> x.delete(12, LENGTH));
        calls.add(x -> x.keys(0));
        calls.add(x -> x.key(0, 0));
        calls.add(x -> x.lock(12, 2));
        calls.add(x -> x.locked(0, 0));
        calls.add(x -> x.prototype(12, 13));
        calls.add(x -> x.stress(1));
        return calls;
    }

    private static void operandAndResultStay() {
        CHECK.sentence("Terms", "An object that is one of both is there as long as it is.");
        PropertyStore x = marked();
        x.operand(5, 0);
        x.put(1, -3);
        x.get(1, -3);
        x.copy(0, -1);
        x.copy(1, -1);
        churn(x);
        x.operand(0, 0);
        churn(x);
        x.hold(0);
        CHECK.dueNumber(x, 0, -2, 77);
        x.operand(5, 0);
        x.copy(0, -1);
        churn(x);
        x.object(1, -1, false);
        x.put(1, -3);
        x.get(1, -3);
        x.hold(0);
        CHECK.dueNumber(x, 0, -2, 77);
    }

    private static void formsOfProperties() {
        CHECK.sentence("Terms", "A PROPERTY has a key, is ENUMERABLE or not, CONFIGURABLE or not, and is either a DATA property, "
                + "with a value, WRITABLE or not, or an ACCESSOR");
        int[] parts = {0, W, E, W | E, C, W | C, E | C, WEC};
        PropertyStore x = fresh();
        x.object(0, -1, false);
        x.object(1, -1, false);
        for (int n = 0; n < parts.length; n++) {
            defineNumber(x, 0, -2 - n, VALUE | WEC, parts[n], n);
            defineNumber(x, 0, LAST_INDEX - n, VALUE | WEC, parts[n], 100 + n);
            x.define(0, n, GETTER | SETTER | E | C, parts[n], 1, -1);
        }
        for (int n = 0; n < parts.length; n++) {
            CHECK.due("own of the name " + (n + 1), x.own(0, -2 - n), parts[n]);
            CHECK.due("bits()", x.bits(), Check.number(n));
            CHECK.due("own of the last index but " + n, x.own(0, LAST_INDEX - n), parts[n]);
            CHECK.due("bits()", x.bits(), Check.number(100 + n));
            CHECK.due("own of the index " + n, x.own(0, n), ACCESSOR | parts[n] & ~W);
            CHECK.due("kind()", x.kind(), 5);
            CHECK.due("put of the name " + (n + 1), x.put(0, -2 - n), (parts[n] & W) != 0 ? 0 : 2);
            CHECK.due("delete of the name " + (n + 1), x.delete(0, -2 - n), (parts[n] & C) != 0);
        }
    }

    private static void accessors() {
        CHECK.sentence("Terms", "or an ACCESSOR, with a GETTER and a SETTER, each an object or none");
        for (int getter : new int[] {-1, 1}) {
            for (int setter : new int[] {-1, 2}) {
                PropertyStore x = withProperty(GETTER | SETTER, 0, getter, setter);
                CHECK.due("own(0, -2)", x.own(0, -2), ACCESSOR);
                CHECK.due("kind() of the getter", x.kind(), getter == -1 ? 0 : 5);
                CHECK.due("get(0, -2)", x.get(0, -2), getter == -1 ? 0 : 1);
                CHECK.due("put(0, -2)", x.put(0, -2), setter == -1 ? 2 : 1);
                CHECK.due("setter(0, -2, 9)", x.setter(0, -2, 9), setter != -1);
            }
        }
    }

    private static void noTwoWithOneKey() {
        CHECK.sentence("Terms", "An object has OWN properties, no two with the same key");
        PropertyStore x = fresh();
        x.object(0, -1, false);
        for (int n = 0; n < 3; n++) {
            x.put(0, LAST_INDEX);
            x.put(0, LAST_NAME);
            x.define(0, LENGTH, C, C, -1, -1);
            x.define(0, 0, n == 1 ? GETTER : VALUE | C, C, -1, -1);
        }
        CHECK.dueKeys(x, 0, 0, LAST_INDEX, LAST_NAME, LENGTH);
    }

    private static void prototypeNeverChanges() {
        CHECK.sentence("Terms", "a PROTOTYPE, an object or none, that never changes");
        PropertyStore x = rich();
        x.object(0, -1, false);
        x.lock(1, 2);
        x.prototype(1, 5);
        CHECK.due("root 0 holds another object, the prototype is the old one", x.same(5, 0), false);
        CHECK.due("keys(5)", x.keys(5), 3);
        x.copy(5, -1);
        x.copy(0, -1);
        CHECK.due("has(1, 3) when no root holds the prototype", x.has(1, 3), true);
        x.prototype(2, 5);
        CHECK.due("none stays none", x.same(5, EMPTY), true);
    }

    private static void extensibleAtFirst() {
        CHECK.sentence("Terms", "and is EXTENSIBLE at first");
        PropertyStore x = fresh();
        x.object(0, -1, false);
        x.lock(0, 0);
        x.object(1, 0, false);
        x.object(2, 0, true);
        CHECK.due("locked(1, 0) of a new object behind a locked one", x.locked(1, 0), false);
        CHECK.due("locked(2, 0) of a new array behind a locked one", x.locked(2, 0), false);
        CHECK.due("put(1, -2)", x.put(1, -2), 0);
        CHECK.due("put(2, 0)", x.put(2, 0), 0);
    }

    private static void ownAheadOfPrototype() {
        CHECK.sentence("Terms", "An object's property of a key is its own one, otherwise that of its prototype.");
        PropertyStore x = fresh();
        x.object(0, -1, false);
        putNumber(x, 0, -2, 5);
        x.object(1, 0, false);
        x.object(2, 1, false);
        CHECK.dueNumber(x, 2, -2, 5);
        x.define(1, -2, C, C, -1, -1);
        x.get(2, -2);
        CHECK.due("an undefined value hides the prototype's", x.kind(), 0);
        CHECK.due("put(2, -2) over one that is not writable", x.put(2, -2), 2);
        x.define(1, -2, GETTER, 0, -1, -1);
        CHECK.due("an accessor without getter hides it, too", x.get(2, -2), 0);
        CHECK.due("kind()", x.kind(), 0);
        x.delete(1, -2);
        CHECK.dueNumber(x, 2, -2, 5);
        x.delete(0, -2);
        CHECK.due("has(2, -2) when none has it", x.has(2, -2), false);
    }

    private static void getOfNothing() {
        CHECK.sentence("Terms", "TO GET a key: undefined when there is no property of it; the value of a data property");
        PropertyStore x = rich();
        CHECK.due("get(2, 0) of an empty object", x.get(2, 0), 0);
        CHECK.due("kind()", x.kind(), 0);
        CHECK.due("get(1, 1) of no property, with a prototype", x.get(1, 1), 0);
        CHECK.due("kind()", x.kind(), 0);
        CHECK.dueNumber(x, 1, 3, 8);
        CHECK.dueNumber(x, 1, LENGTH, 4);
    }

    private static void getOfAccessor() {
        CHECK.sentence("Terms, TO GET", "of an accessor its getter is to be called "
                + "(without one it is undefined, and nothing is to be called)");
        PropertyStore x = rich();
        x.object(6, 1, false);
        for (int r : new int[] {1, 6}) {
            CHECK.due("get(" + r + ", -3)", x.get(r, -3), 1);
            x.hold(7);
            CHECK.due("the result is the getter", x.same(7, 2), true);
        }
        x.define(1, -3, GETTER, 0, -1, -1);
        for (int r : new int[] {1, 6}) {
            CHECK.due("get(" + r + ", -3) without getter", x.get(r, -3), 0);
            CHECK.due("kind()", x.kind(), 0);
        }
    }

    private static void putOfOwnData() {
        CHECK.sentence("Terms", "TO PUT a value at a key: when it has an own property: a data property: refused unless writable "
                + "(before anything else, also of LENGTH)");
        CHECK.leavesPut("put of another value", 2, () -> fixedWith(new long[] {3, 0}, new long[] {2, 0}), 0, -2);
        CHECK.leavesPut("put of the same value", 2, () -> fixedWith(new long[] {3, 0}, new long[] {3, 0}), 0, -2);
        CHECK.leavesPut("put of a configurable one", 2, () -> withProperty(VALUE | C, C, -1, -1), 0, -2);
        for (double d : new double[] {0, 1, 2, 3, 0.5, -1}) {
            CHECK.leavesPut("put of the length " + d, 2, () -> withFixedLength(4, Check.number(d)), 0, LENGTH);
        }
        CHECK.leavesPut("put of the length undefined", 2, () -> withFixedLength(0, 0), 0, LENGTH);
        CHECK.leavesPut("put of the length that is an object", 2, () -> withFixedLength(5, 0), 0, LENGTH);
    }

    private static PropertyStore withFixedLength(int kind, long bits) {
        PropertyStore x = array(0, 1);
        x.define(0, LENGTH, W, 0, -1, -1);
        x.operand(kind, bits);
        return x;
    }

    private static void putOfOwnDataKeepsAttributes() {
        CHECK.sentence("Terms, TO PUT", "defined with the value alone (so a LENGTH may be BAD)");
        for (int rest : new int[] {0, E, C, E | C}) {
            PropertyStore x = withProperty(VALUE | WEC, W | rest, -1, -1);
            x.lock(0, 0);
            CHECK.due("put", putNumber(x, 0, -2, 6), 0);
            CHECK.due("own(0, -2)", x.own(0, -2), W | rest);
            CHECK.due("bits()", x.bits(), Check.number(6));
        }
        CHECK.leavesPut("put of a bad length", 3, () -> {
            PropertyStore x = array(0, 1);
            x.operand(4, Check.number(-1));
            return x;
        }, 0, LENGTH);
        CHECK.leavesPut("put of a bad length, sealed", 3, () -> {
            PropertyStore x = array(0, 1);
            x.operand(0, 0);
            x.lock(0, 1);
            return x;
        }, 0, LENGTH);
        PropertyStore y = array(0, 1);
        CHECK.due("put of a shorter length", putNumber(y, 0, LENGTH, 1), 0);
        CHECK.dueKeys(y, 0, 0, LENGTH);
        CHECK.dueLength(y, 0, 1, W);
    }

    private static void dueSetter(PropertyStore x, int r, int due) {
        CHECK.due("put(" + r + ", -2) of an accessor", x.put(r, -2), 1);
        CHECK.due("kind()", x.kind(), 5);
        x.hold(9);
        CHECK.due("the result is the setter", x.same(9, due), true);
    }

    private static void putOfOwnAccessor() {
        CHECK.sentence("Terms, TO PUT", "An accessor: its setter is to be called (refused without one).");
        PropertyStore x = withProperty(GETTER | SETTER, 0, 1, 2);
        dueSetter(x, 0, 2);
        x.lock(0, 2);
        dueSetter(x, 0, 2);
        CHECK.due("own(0, -2) is left as it was", x.own(0, -2), ACCESSOR);
        CHECK.leavesPut("put without setter", 2, () -> withProperty(GETTER | C, C, 1, -1), 0, -2);
        CHECK.leavesPut("put with neither", 2, () -> withProperty(SETTER | C, C, -1, -1), 0, -2);
    }

    /** Root 3 holds an object behind root 0's, locked or not. */
    private static PropertyStore behind(PropertyStore x, boolean locked) {
        x.object(3, 0, false);
        x.object(4, 3, true);
        if (locked) {
            x.lock(4, 0);
        }
        return x;
    }

    private static void putOfPrototypesAccessor() {
        CHECK.sentence("Terms, TO PUT", "When it has none, and its prototype has a property of the key: an accessor likewise");
        for (boolean locked : new boolean[] {false, true}) {
            PropertyStore x = behind(withProperty(SETTER, 0, -1, 2), locked);
            dueSetter(x, 4, 2);
            CHECK.due("own(4, -2)", x.own(4, -2), -1);
            CHECK.leavesPut("put without setter", 2, () -> behind(withProperty(GETTER, 0, 1, -1), locked), 4, -2);
        }
    }

    private static void putOfPrototypesData() {
        CHECK.sentence("Terms, TO PUT", "a data property: refused unless the object is extensible and that is writable");
        CHECK.leavesPut("neither", 2, () -> behind(withProperty(VALUE, 0, -1, -1), true), 4, -2);
        CHECK.leavesPut("not extensible", 2, () -> behind(withProperty(VALUE | W, W, -1, -1), true), 4, -2);
        CHECK.leavesPut("not writable", 2, () -> behind(withProperty(VALUE | E | C, E | C, -1, -1), false), 4, -2);
        PropertyStore x = behind(withProperty(VALUE | W, W, -1, -1), false);
        CHECK.due("both", putNumber(x, 4, -2, 6), 0);
        CHECK.due("own(4, -2)", x.own(4, -2), WEC);
        CHECK.dueNumber(x, 0, -2, 5);
        PropertyStore y = behind(withProperty(VALUE | W, W, -1, -1), false);
        y.lock(0, 0);
        CHECK.due("the prototype need not be extensible", y.put(4, -2), 0);
    }

    private static void putOfNothing() {
        CHECK.sentence("Terms, TO PUT", "When there is none: refused unless it is extensible.");
        for (long key : new long[] {0, LAST_INDEX, -3, LAST_NAME}) {
            CHECK.leavesPut("put(4, " + key + ")", 2, () -> behind(withProperty(0, 0, -1, -1), true), 4, key);
            PropertyStore x = behind(withProperty(0, 0, -1, -1), false);
            x.lock(0, 2);
            x.lock(3, 2);
            CHECK.due("put(4, " + key + "), its prototypes locked", x.put(4, key), 0);
        }
    }

    private static void putMakesAllTrue() {
        CHECK.sentence("Terms, TO PUT", "In both cases it is then defined with the value and writable, "
                + "enumerable, configurable all true.");
        PropertyStore x = behind(withProperty(VALUE | W, W, -1, -1), false);
        for (long key : new long[] {-2, -3, 0, 8}) {
            CHECK.due("put(4, " + key + ")", putNumber(x, 4, key, 9), 0);
            CHECK.due("own(4, " + key + ")", x.own(4, key), WEC);
            CHECK.due("bits()", x.bits(), Check.number(9));
        }
        CHECK.dueLength(x, 4, 9, W);
        CHECK.leavesPut("put of an index at a length that is not writable", 2, () -> withFixedLength(3, 0), 0, 2);
        PropertyStore y = array();
        y.object(1, 0, false);
        CHECK.due("put(1, -1) of no array", putNumber(y, 1, LENGTH, 0.5), 0);
        CHECK.due("own(1, -1)", y.own(1, LENGTH), WEC);
    }

    private static void delete() {
        CHECK.sentence("Terms", "TO DELETE a key: nothing to do without an own property; "
                + "refused when that is not configurable; otherwise it goes.");
        CHECK.leaves("delete of nothing", 1, Scene::rich, x -> x.delete(2, 0) ? 1 : 0);
        CHECK.leaves("delete of the prototype's", 1, Scene::rich, x -> x.delete(1, LENGTH) ? 1 : 0);
        CHECK.leaves("delete of LENGTH", 0, Scene::rich, x -> x.delete(0, LENGTH) ? 1 : 0);
        CHECK.leaves("delete, not configurable", 0, () -> withProperty(VALUE | W | E, W | E, -1, -1),
                x -> x.delete(0, -2) ? 1 : 0);
        CHECK.leaves("delete of an accessor, not configurable", 0, () -> withProperty(SETTER, 0, -1, 2),
                x -> x.delete(0, -2) ? 1 : 0);
        for (int told : new int[] {VALUE, SETTER}) {
            PropertyStore x = withProperty(told | C, C, -1, 1);
            x.lock(0, 0);
            CHECK.due("delete, configurable", x.delete(0, -2), true);
            CHECK.due("keys(0)", x.keys(0), 0);
            CHECK.due("delete once more", x.delete(0, -2), true);
        }
        PropertyStore y = array(0, LAST_INDEX);
        CHECK.due("delete of the last index", y.delete(0, LAST_INDEX), true);
        CHECK.dueLength(y, 0, MOST_LENGTH, W);
    }

    private static void orderOfKeys() {
        CHECK.sentence("Terms", "KEYS of an object are in order: own indices, rising, then own names as they were made "
                + "(one that was deleted and is made again comes last).");
        PropertyStore x = fresh();
        x.object(0, -1, false);
        for (long key : new long[] {LAST_NAME, 2, LENGTH, LAST_INDEX, -3, 0}) {
            x.put(0, key);
        }
        CHECK.dueKeys(x, 0, 0, 2, LAST_INDEX, LAST_NAME, LENGTH, -3);
        for (long key : new long[] {LAST_NAME, 0, LAST_INDEX}) {
            x.delete(0, key);
            x.put(0, key);
        }
        CHECK.dueKeys(x, 0, 0, 2, LAST_INDEX, LENGTH, -3, LAST_NAME);
        x.put(0, LENGTH);
        x.define(0, LENGTH, GETTER, 0, -1, -1);
        CHECK.dueKeys(x, 0, 0, 2, LAST_INDEX, LENGTH, -3, LAST_NAME);
        x.put(0, 1);
        CHECK.dueKeys(x, 0, 0, 1, 2, LAST_INDEX, LENGTH, -3, LAST_NAME);
        x.object(1, 0, true);
        CHECK.dueKeys(x, 1, LENGTH);
        x.put(1, -5);
        x.put(1, 7);
        CHECK.dueKeys(x, 1, 7, LENGTH, -5);
    }

    private static void collectsUnseen() {
        CHECK.sentence("Terms", "All memory is the class's own, and is collected whenever it likes, "
                + "or before each n-th block that is made when that is told; no answer changes by it.");
        String calm = Check.picture(grown(0));
        for (int n : new int[] {1, 2, 3, 4, 5, 64, Integer.MAX_VALUE}) {
            CHECK.due("a picture with stress(" + n + ")", Check.picture(grown(n)), calm);
        }
    }

    /** What is made behind the last collection that was told fills the memory, and more. */
    private static void collectsUnseenWhenTakenBack() {
        CHECK.sentence("Terms", "or before each n-th block that is made when that is told; no answer changes by it.");
        for (int n = 1; n < 4; n++) {
            PropertyStore x = fresh();
            x.object(0, -1, true);
            x.object(1, -1, true);
            x.copy(1, -1);
            x.stress(n);
            for (int made = 0; made < 10; made++) {
                x.object(1, -1, made % 2 == 0);
            }
            x.stress(0);
            for (int index = 0; index < 90; index++) {
                putNumber(x, 0, index, index);
            }
            for (int index = 0; index < 90; index++) {
                CHECK.dueNumber(x, 0, index, index);
            }
            CHECK.due("keys(0)", x.keys(0), 91);
            CHECK.due("keys(1)", x.keys(1), 0);
        }
    }

    /** What is made goes and comes, with a collection before each n-th block. */
    private static PropertyStore grown(int n) {
        PropertyStore x = rich();
        x.stress(n);
        for (int step = 0; step < 12; step++) {
            x.object(5 + step % 3, step % 4, step % 2 == 0);
            x.operand(5, 5 + step % 3);
            x.put(step % 4, -10 - step % 5);
            x.define(step % 4, step % 5, GETTER | SETTER | C, C, 5 + step % 3, step % 4);
            x.delete(step % 3, -10 - step % 7);
        }
        return x;
    }
}
