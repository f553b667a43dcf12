import java.util.function.Supplier;

/** The sentences of "TO DEFINE" and "AN ARRAY" that name a boundary case, one method each. */
public final class DefineTest extends Scene {
    private static final String DEFINE = "Terms, TO DEFINE (promise 11)";
    private static final String ARRAY = "Terms, AN ARRAY (promises 10 and 11)";
    private static final Check CHECK = new Check("DefineTest");

    public static void main(String[] args) {
        withEachStress(DefineTest::all);
        CHECK.end();
    }

    static void all() {
        describes();
        describesOneKind();
        newOfLocked();
        newOne();
        newOneNotTold();
        asItIs();
        undefinedAsItIs();
        fixedConfigurable();
        fixedEnumerable();
        fixedAccessorAsData();
        fixedDataAsAccessor();
        fixedDataNotWritable();
        fixedAccessorWithOthers();
        refusedAsAWhole();
        becomesWhatIsTold();
        turnsOver();
        newArray();
        lengthWithoutValue();
        lengthOfNoArray();
        numberOfLength();
        badLength();
        badAheadOfRefusals();
        lengthNotBelow();
        lengthBelowNotWritable();
        lengthBelowDefined();
        lengthBelowRefused();
        lengthDeletes();
        lengthStopsAtFixed();
        lengthBecomesNotWritable();
        lengthOfLockedArray();
        indexNotBelowFixedLength();
        indexNotBelow();
        indexRefused();
        indexBelow();
    }

    /** Defines name 1 of root 0, whose operand is the number 5 as Scene's property has it. */
    private static int define(PropertyStore x, int told, int flags, int getter, int setter) {
        return x.define(0, -2, told, flags, getter, setter);
    }

    private static void dueRefused(String call, Supplier<PropertyStore> maker, int told, int flags, int getter, int setter) {
        CHECK.leaves(call, 2, maker, x -> define(x, told, flags, getter, setter));
    }

    private static void dueAsItIs(String call, Supplier<PropertyStore> maker, int told, int flags, int getter, int setter) {
        CHECK.leaves(call, 0, maker, x -> define(x, told, flags, getter, setter));
    }

    /** Own attributes, and the root that the value or the getter is (-1: it is undefined). */
    private static void dueOwn(PropertyStore x, int attributes, int getter, int setter) {
        CHECK.due("own(0, -2)", x.own(0, -2), attributes);
        CHECK.due("kind() of the value or getter", x.kind(), getter == -1 ? 0 : 5);
        if (x.kind() == 5) {
            x.hold(9);
            CHECK.due("it is root " + getter + "'s", x.same(9, getter), true);
        }
        CHECK.due("setter(0, -2, 9)", x.setter(0, -2, 9), setter != -1);
        if (setter != -1) {
            CHECK.due("it is root " + setter + "'s", x.same(9, setter), true);
        }
    }

    private static PropertyStore bare() {
        PropertyStore x = fresh();
        x.object(0, -1, false);
        x.object(1, -1, false);
        x.object(2, -1, false);
        return x;
    }

    /** Each part that is told alone changes itself alone, in a property where all is otherwise. */
    private static void describes() {
        CHECK.sentence(DEFINE, "TO DEFINE a property of an object by a DESCRIPTION, which tells some of: value, writable, "
                + "getter, setter, enumerable, configurable");
        for (int one : new int[] {W, E, C}) {
            PropertyStore on = withProperty(VALUE | C, C, -1, -1);
            CHECK.due("told to be true: " + one, define(on, one, one, -1, -1), 0);
            CHECK.due("own(0, -2)", on.own(0, -2), C | one);
            CHECK.due("bits()", on.bits(), Check.number(5));
            PropertyStore off = withProperty(VALUE | WEC, WEC, -1, -1);
            CHECK.due("told to be false: " + one, define(off, one, 0, -1, -1), 0);
            CHECK.due("own(0, -2)", off.own(0, -2), WEC & ~one);
            CHECK.due("bits()", off.bits(), Check.number(5));
        }
        PropertyStore value = withProperty(VALUE | WEC, WEC, -1, -1);
        CHECK.due("a value", defineNumber(value, 0, -2, VALUE, 0, 6), 0);
        CHECK.due("own(0, -2)", value.own(0, -2), WEC);
        CHECK.due("bits()", value.bits(), Check.number(6));
        PropertyStore accessor = withProperty(GETTER | SETTER | E | C, E | C, 1, 2);
        CHECK.due("a getter", define(accessor, GETTER, 0, 0, 1), 0);
        dueOwn(accessor, ACCESSOR | E | C, 0, 2);
        CHECK.due("a setter", define(accessor, SETTER, 0, 2, 1), 0);
        dueOwn(accessor, ACCESSOR | E | C, 0, 1);
        CHECK.due("an accessor that is not enumerable", define(accessor, E, 0, 2, 2), 0);
        dueOwn(accessor, ACCESSOR | C, 0, 1);
        CHECK.due("an accessor that is not configurable", define(accessor, C, 0, 2, 2), 0);
        dueOwn(accessor, ACCESSOR, 0, 1);
        CHECK.leaves("nothing", 0, () -> withProperty(GETTER | SETTER | C, C, 1, 2), x -> define(x, 0, WEC, 2, 1));
    }

    private static void describesOneKind() {
        CHECK.sentence(DEFINE, "(never one of the first two with one of the next two)");
        for (int told = 0; told <= 63; told++) {
            int bits = told;
            boolean data = (told & VALUE) != 0 || (told & W) != 0;
            boolean accessor = (told & GETTER) != 0 || (told & SETTER) != 0;
            if (data && accessor) {
                CHECK.refuses("told " + told + " of a new one", DefineTest::bare, x -> define(x, bits, 0, 1, 2));
                CHECK.refuses("told " + told + " of data", () -> withProperty(VALUE | C, C, -1, -1),
                        x -> define(x, bits, 0, 1, 2));
            } else {
                CHECK.due("told " + told, define(bare(), bits, 0, 1, 2), 0);
            }
        }
    }

    private static void newOfLocked() {
        CHECK.sentence(DEFINE, "When it has no own property of the key: REFUSED unless it is extensible");
        int[] tolds = {0, VALUE, W, GETTER, SETTER, E, C, VALUE | WEC, GETTER | SETTER | E | C};
        for (int told : tolds) {
            for (long key : new long[] {0, LAST_INDEX, LENGTH, -2, LAST_NAME}) {
                Supplier<PropertyStore> locked = () -> {
                    PropertyStore x = bare();
                    x.lock(0, 0);
                    return x;
                };
                CHECK.leaves("define of a new one with told " + told, 2, locked, x -> x.define(0, key, told, WEC, 1, 2));
                CHECK.due("define of an extensible one's", bare().define(0, key, told, WEC, 1, 2), 0);
            }
        }
        CHECK.leaves("define of the prototype's key", 2, () -> {
            PropertyStore x = withProperty(VALUE | WEC, WEC, -1, -1);
            x.object(3, 0, false);
            x.lock(3, 0);
            return x;
        }, x -> x.define(3, -2, VALUE, 0, -1, -1));
    }

    private static void newOne() {
        CHECK.sentence(DEFINE, "otherwise the property is made: an accessor when getter or setter is told, else a data property");
        dueOwn(withProperty(GETTER, 0, 1, -1), ACCESSOR, 1, -1);
        dueOwn(withProperty(SETTER, 0, -1, 2), ACCESSOR, -1, 2);
        dueOwn(withProperty(GETTER | SETTER, 0, 1, 2), ACCESSOR, 1, 2);
        dueOwn(withProperty(GETTER, 0, -1, -1), ACCESSOR, -1, -1);
        dueOwn(withProperty(SETTER, 0, -1, -1), ACCESSOR, -1, -1);
        dueOwn(withProperty(GETTER | SETTER | E | C, WEC, 0, 0), ACCESSOR | E | C, 0, 0);
        dueOwn(withProperty(0, 0, 1, 2), 0, -1, -1);
        dueOwn(withProperty(W, W, 1, 2), W, -1, -1);
        PropertyStore x = withProperty(VALUE, 0, 1, 2);
        CHECK.due("own(0, -2)", x.own(0, -2), 0);
        CHECK.due("bits()", x.bits(), Check.number(5));
    }

    private static void newOneNotTold() {
        CHECK.sentence(DEFINE, "what is not told is undefined, none or false");
        for (int told : new int[] {0, W, E, C, W | E, E | C, WEC}) {
            dueOwn(withProperty(told, -1, 1, 2), told, -1, -1);
            dueOwn(withProperty(told, 0, 1, 2), 0, -1, -1);
        }
        for (int told : new int[] {0, E, C, E | C}) {
            dueOwn(withProperty(told | GETTER, -1, 1, 2), told | ACCESSOR, 1, -1);
            dueOwn(withProperty(told | SETTER, -1, 1, 2), told | ACCESSOR, -1, 2);
        }
    }

    private static void asItIs() {
        CHECK.sentence(DEFINE, "When it has one: nothing is done when all that is told is as it is there (values that are the same)");
        for (int is = 0; is <= WEC; is++) {
            if ((is & ~WEC) != 0) {
                continue;
            }
            int flags = is;
            Supplier<PropertyStore> data = () -> withProperty(VALUE | WEC, flags, -1, -1);
            for (int told : new int[] {0, VALUE, W, E, C, VALUE | WEC}) {
                dueAsItIs("data as it is, told " + told, data, told, flags, -1, -1);
            }
            Supplier<PropertyStore> accessor = () -> withProperty(GETTER | SETTER | E | C, flags, 1, 2);
            for (int told : new int[] {0, GETTER, SETTER, E, C, GETTER | SETTER | E | C}) {
                dueAsItIs("an accessor as it is, told " + told, accessor, told, flags, 1, 2);
            }
        }
        Supplier<PropertyStore> none = () -> withProperty(GETTER, 0, -1, -1);
        dueAsItIs("no getter and no setter", none, GETTER | SETTER, 0, -1, -1);
    }

    /** Undefined is one value, whether it was told, not told, or left when an accessor became data. */
    private static void undefinedAsItIs() {
        CHECK.sentence(DEFINE, "nothing is done when all that is told is as it is there (values that are the same)");
        Supplier<PropertyStore> notTold = () -> {
            PropertyStore x = withProperty(0, 0, -1, -1);
            x.operand(0, 5);
            return x;
        };
        dueAsItIs("undefined, where no value was told", notTold, VALUE | WEC, 0, -1, -1);
        Supplier<PropertyStore> turnedOver = () -> {
            PropertyStore x = withProperty(GETTER | SETTER | C, C, 1, 2);
            define(x, W | C, 0, -1, -1);
            x.operand(0, 5);
            return x;
        };
        dueAsItIs("undefined, where an accessor was", turnedOver, VALUE | WEC, 0, -1, -1);
        Supplier<PropertyStore> putOver = () -> {
            PropertyStore x = withProperty(VALUE | WEC, WEC, -1, -1);
            x.operand(0, 5);
            x.put(0, -2);
            x.lock(0, 2);
            x.operand(0, 6);
            return x;
        };
        dueAsItIs("undefined, where a number was", putOver, VALUE | WEC, E, -1, -1);
    }

    private static void fixedConfigurable() {
        CHECK.sentence(DEFINE, "When it is not configurable, refused: if configurable is told to be true");
        dueRefused("of data", () -> withProperty(VALUE | W | E, W | E, -1, -1), C, C, -1, -1);
        dueRefused("of data, with all else as it is", () -> withProperty(VALUE, 0, -1, -1), VALUE | WEC, C, -1, -1);
        dueRefused("of an accessor", () -> withProperty(GETTER, 0, 1, -1), C, C, -1, -1);
    }

    private static void fixedEnumerable() {
        CHECK.sentence(DEFINE, "or enumerable otherwise than it is");
        dueRefused("data, true", () -> withProperty(VALUE | W, W, -1, -1), E, E, -1, -1);
        dueRefused("data, false", () -> withProperty(VALUE | W | E, W | E, -1, -1), E, 0, -1, -1);
        dueRefused("accessor, true", () -> withProperty(GETTER, 0, 1, -1), E, E, -1, -1);
        dueRefused("accessor, false", () -> withProperty(GETTER | E, E, 1, -1), E, 0, -1, -1);
    }

    private static void fixedAccessorAsData() {
        CHECK.sentence(DEFINE, "if value or writable is told and it is an accessor");
        Supplier<PropertyStore> accessor = () -> withProperty(GETTER | SETTER, 0, 1, 2);
        dueRefused("a value", accessor, VALUE, 0, -1, -1);
        dueRefused("writable", accessor, W, W, -1, -1);
        dueRefused("not writable", accessor, W, 0, -1, -1);
        dueRefused("both", accessor, VALUE | W, W, -1, -1);
        dueRefused("the getter as a value", () -> {
            PropertyStore x = withProperty(GETTER, 0, 1, -1);
            x.operand(5, 1);
            return x;
        }, VALUE, 0, -1, -1);
        dueRefused("undefined where there is no getter", () -> {
            PropertyStore x = withProperty(GETTER, 0, -1, -1);
            x.operand(0, 0);
            return x;
        }, VALUE, 0, -1, -1);
    }

    private static void fixedDataAsAccessor() {
        CHECK.sentence(DEFINE, "if getter or setter is told and it is a data property");
        for (int flags : new int[] {0, W}) {
            Supplier<PropertyStore> data = () -> withProperty(VALUE | W, flags, -1, -1);
            dueRefused("a getter", data, GETTER, 0, 1, -1);
            dueRefused("a setter", data, SETTER, 0, -1, 2);
            dueRefused("a getter that is none", data, GETTER, 0, -1, -1);
            dueRefused("a setter that is none", data, SETTER, 0, -1, -1);
            dueRefused("both", data, GETTER | SETTER, 0, 1, 2);
        }
        CHECK.leaves("a getter of LENGTH", 2, () -> array(0), x -> x.define(0, LENGTH, GETTER, 0, 0, -1));
    }

    private static void fixedDataNotWritable() {
        CHECK.sentence(DEFINE, "if it is a data property that is not writable, and writable is told to be true, "
                + "or a value that is not the same");
        Supplier<PropertyStore> data = () -> withProperty(VALUE, 0, -1, -1);
        dueRefused("writable", data, W, W, -1, -1);
        dueRefused("writable, the value as it is", data, VALUE | W, W, -1, -1);
        Supplier<PropertyStore> another = () -> {
            PropertyStore x = withProperty(VALUE, 0, -1, -1);
            x.operand(4, Check.number(6));
            return x;
        };
        dueRefused("another value", another, VALUE, 0, -1, -1);
        dueRefused("another value, not writable", another, VALUE | W, 0, -1, -1);
    }

    private static void fixedAccessorWithOthers() {
        CHECK.sentence(DEFINE, "if it is an accessor, and a getter or setter is told that is another one");
        Supplier<PropertyStore> both = () -> withProperty(GETTER | SETTER, 0, 1, 2);
        dueRefused("another getter", both, GETTER, 0, 2, -1);
        dueRefused("no getter", both, GETTER, 0, -1, -1);
        dueRefused("another setter", both, SETTER, 0, -1, 1);
        dueRefused("no setter", both, SETTER, 0, -1, -1);
        dueRefused("the getter, and another setter", both, GETTER | SETTER, 0, 1, 1);
        dueRefused("another getter, and the setter", both, GETTER | SETTER, 0, 2, 2);
        Supplier<PropertyStore> neither = () -> withProperty(GETTER, 0, -1, -1);
        dueRefused("a getter where there is none", neither, GETTER, 0, 1, -1);
        dueRefused("a setter where there is none", neither, SETTER, 0, -1, 2);
    }

    private static void refusedAsAWhole() {
        CHECK.sentence(DEFINE, "When it is not configurable, refused");
        Supplier<PropertyStore> data = () -> {
            PropertyStore x = withProperty(VALUE | W, W, -1, -1);
            x.operand(4, Check.number(6));
            return x;
        };
        dueRefused("a value that could be, with configurable", data, VALUE | C, C, -1, -1);
        dueRefused("a value that could be, with enumerable", data, VALUE | W | E, E, -1, -1);
    }

    private static void becomesWhatIsTold() {
        CHECK.sentence(DEFINE, "Otherwise it becomes what is told");
        PropertyStore x = withProperty(VALUE | W, W, -1, -1);
        x.operand(3, 0);
        CHECK.due("fixed but writable: another value", define(x, VALUE, 0, -1, -1), 0);
        CHECK.due("own(0, -2)", x.own(0, -2), W);
        CHECK.due("kind()", x.kind(), 3);
        x.operand(2, 0);
        CHECK.due("fixed but writable: another value, not writable", define(x, VALUE | W, 0, -1, -1), 0);
        CHECK.due("own(0, -2)", x.own(0, -2), 0);
        CHECK.due("kind()", x.kind(), 2);
        CHECK.due("and then nothing more", define(x, W, W, -1, -1), 2);
        PropertyStore y = withProperty(C, C, -1, -1);
        CHECK.due("configurable: writable", define(y, W, W, -1, -1), 0);
        CHECK.due("configurable: not writable", define(y, W, 0, -1, -1), 0);
        CHECK.due("configurable, not writable: a value", define(y, VALUE, 0, -1, -1), 0);
        CHECK.due("configurable: enumerable", define(y, E, E, -1, -1), 0);
        CHECK.due("own(0, -2)", y.own(0, -2), E | C);
        CHECK.due("bits()", y.bits(), Check.number(5));
        CHECK.due("configurable: not enumerable, not configurable", define(y, E | C, 0, -1, -1), 0);
        CHECK.due("own(0, -2)", y.own(0, -2), 0);
        PropertyStore z = withProperty(GETTER | SETTER | C, C, 1, 2);
        CHECK.due("configurable: another getter", define(z, GETTER, 0, 2, -1), 0);
        dueOwn(z, ACCESSOR | C, 2, 2);
        CHECK.due("configurable: no setter", define(z, SETTER, 0, -1, -1), 0);
        dueOwn(z, ACCESSOR | C, 2, -1);
    }

    private static void turnsOver() {
        CHECK.sentence(DEFINE, "when it becomes an accessor, or a data property, and was the other one, it keeps its turn "
                + "among the keys, enumerable and configurable (but for what is told), and the rest that is not told is "
                + "undefined, none or false");
        for (int kept : new int[] {C, E | C}) {
            PropertyStore x = withProperty(VALUE | WEC, W | kept, -1, -1);
            x.put(0, -3);
            CHECK.due("by a getter", define(x, GETTER, WEC, 1, 2), 0);
            dueOwn(x, ACCESSOR | kept, 1, -1);
            CHECK.due("by writable", define(x, W, W, -1, -1), 0);
            dueOwn(x, W | kept, -1, -1);
            CHECK.due("by a setter that is none", define(x, SETTER, 0, 1, -1), 0);
            dueOwn(x, ACCESSOR | kept, -1, -1);
            CHECK.due("by a getter and a setter, once more", define(x, GETTER | SETTER, 0, 1, 2), 0);
            CHECK.due("by a value", define(x, VALUE, -1, 1, 2), 0);
            CHECK.due("own(0, -2)", x.own(0, -2), kept);
            CHECK.due("bits()", x.bits(), Check.number(5));
            CHECK.due("by a setter", define(x, SETTER | E, kept ^ E, -1, 2), 0);
            dueOwn(x, ACCESSOR | kept ^ E, -1, 2);
            CHECK.due("by not writable, not configurable", define(x, W | C, 0, -1, -1), 0);
            dueOwn(x, (kept ^ E) & E, -1, -1);
            CHECK.dueKeys(x, 0, -2, -3);
        }
        for (int part : new int[] {GETTER, SETTER}) {
            PropertyStore again = withProperty(GETTER | SETTER | C, C, 1, 2);
            CHECK.due("data for a while", define(again, VALUE | W, W, -1, -1), 0);
            CHECK.due("an accessor again", define(again, part, 0, 0, 0), 0);
            dueOwn(again, ACCESSOR | C, part == GETTER ? 0 : -1, part == SETTER ? 0 : -1);
            CHECK.due("data again", define(again, W, 0, -1, -1), 0);
            dueOwn(again, C, -1, -1);
        }
        PropertyStore y = array(0, 1, 2);
        CHECK.due("an index", y.define(0, 1, GETTER, 0, 0, -1), 0);
        CHECK.dueKeys(y, 0, 0, 1, 2, LENGTH);
        CHECK.dueLength(y, 0, 3, W);
    }

    private static void newArray() {
        CHECK.sentence(ARRAY, "AN ARRAY has an own property LENGTH from the beginning: a data property, writable, "
                + "not enumerable, not configurable, with a number from 0 (at first) to 4294967295.");
        PropertyStore x = array();
        CHECK.dueKeys(x, 0, LENGTH);
        CHECK.dueLength(x, 0, 0, W);
        CHECK.due("setter(0, -1, 1)", x.setter(0, LENGTH, 1), false);
        CHECK.due("the greatest length", putNumber(x, 0, LENGTH, MOST_LENGTH), 0);
        CHECK.dueLength(x, 0, MOST_LENGTH, W);
        CHECK.due("the greatest length and one more", putNumber(x, 0, LENGTH, MOST_LENGTH + 1), 3);
        CHECK.dueLength(x, 0, MOST_LENGTH, W);
        CHECK.due("the greatest length, by its index", array(LAST_INDEX).keys(0), 2);
        CHECK.dueLength(array(LAST_INDEX), 0, MOST_LENGTH, W);
        PropertyStore y = array();
        y.object(1, -1, false);
        CHECK.due("an object has none", y.own(1, LENGTH), -1);
    }

    private static void lengthWithoutValue() {
        CHECK.sentence(ARRAY, "Its definitions go otherwise in two cases");
        CHECK.leaves("LENGTH with nothing told", 0, () -> array(0, 1), x -> x.define(0, LENGTH, 0, 0, -1, -1));
        CHECK.leaves("LENGTH as it is", 0, () -> array(0, 1), x -> x.define(0, LENGTH, WEC, W, -1, -1));
        CHECK.leaves("LENGTH configurable", 2, () -> array(0, 1), x -> x.define(0, LENGTH, C, C, -1, -1));
        CHECK.leaves("LENGTH enumerable", 2, () -> array(0, 1), x -> x.define(0, LENGTH, E, E, -1, -1));
        PropertyStore x = array(0, 1);
        CHECK.due("LENGTH not writable", x.define(0, LENGTH, W, 0, -1, -1), 0);
        CHECK.dueLength(x, 0, 2, 0);
        CHECK.dueKeys(x, 0, 0, 1, LENGTH);
        CHECK.due("LENGTH writable again", x.define(0, LENGTH, W, W, -1, -1), 2);
        CHECK.due("a name of an array", defineNumber(x, 0, -2, VALUE, 0, 9), 0);
        CHECK.dueLength(x, 0, 2, 0);
    }

    private static void lengthOfNoArray() {
        CHECK.sentence(ARRAY, "AN ARRAY has an own property LENGTH");
        PropertyStore x = array(0, 1);
        x.object(1, 0, false);
        x.operand(0, 0);
        CHECK.due("LENGTH of an object takes what is bad", x.define(1, LENGTH, VALUE | WEC, WEC, -1, -1), 0);
        CHECK.due("own(1, -1)", x.own(1, LENGTH), WEC);
        CHECK.due("kind()", x.kind(), 0);
        CHECK.due("an index of an object", putNumber(x, 1, 5, 1), 0);
        CHECK.due("LENGTH of an object deletes nothing", putNumber(x, 1, LENGTH, 0), 0);
        CHECK.dueKeys(x, 1, 5, LENGTH);
        CHECK.due("an object's LENGTH is deleted", x.delete(1, LENGTH), true);
        CHECK.dueLength(x, 0, 2, W);
    }

    private static Supplier<PropertyStore> withOperand(int kind, long bits) {
        return () -> {
            PropertyStore x = array(0, 1, 3);
            x.object(1, -1, false);
            x.operand(kind, bits);
            return x;
        };
    }

    private static void dueLengthOf(int kind, long bits, double due) {
        PropertyStore defined = withOperand(kind, bits).get();
        CHECK.due("define of LENGTH with kind " + kind, defined.define(0, LENGTH, VALUE, 0, -1, -1), 0);
        CHECK.dueLength(defined, 0, due, W);
        PropertyStore put = withOperand(kind, bits).get();
        CHECK.due("put of LENGTH with kind " + kind, put.put(0, LENGTH), 0);
        CHECK.dueLength(put, 0, due, W);
    }

    private static void numberOfLength() {
        CHECK.sentence(ARRAY, "LENGTH with a value told: the value's NUMBER is 0 for null and false, 1 for true, a number itself (-0 is taken for 0)");
        dueLengthOf(1, Check.number(9), 0);
        dueLengthOf(2, Check.number(9), 0);
        dueLengthOf(3, Check.number(9), 1);
        dueLengthOf(4, Check.number(0), 0);
        dueLengthOf(4, Check.number(-0.0), 0);
        for (double d : new double[] {1, 2, 3, 4, 5, 65535, 65536, 2147483647.0, 2147483648.0, 4294967294.0, MOST_LENGTH}) {
            dueLengthOf(4, Check.number(d), d);
        }
        PropertyStore x = array();
        x.lock(0, 2);
        CHECK.due("-0 is the same as the length 0", defineNumber(x, 0, LENGTH, VALUE, 0, -0.0), 0);
        CHECK.dueLength(x, 0, 0, 0);
    }

    private static void dueBad(int kind, long bits) {
        String call = " of LENGTH with kind " + kind + ", bits " + bits;
        CHECK.leaves("define" + call, 3, withOperand(kind, bits), x -> x.define(0, LENGTH, VALUE, 0, -1, -1));
        CHECK.leaves("define, not writable," + call, 3, withOperand(kind, bits),
                x -> x.define(0, LENGTH, VALUE | W, 0, -1, -1));
        CHECK.leavesPut("put" + call, 3, withOperand(kind, bits), 0, LENGTH);
    }

    private static void badLength() {
        CHECK.sentence(ARRAY, "it must be a whole one from 0 to 4294967295 (-0 is taken for 0), otherwise it is BAD "
                + "(objects and undefined are; ahead of all refusals), and nothing is done.");
        dueBad(0, 0);
        dueBad(5, 0);
        dueBad(5, 1);
        double[] bad = {-1, -Double.MIN_VALUE, Double.MIN_VALUE, 0.5, 0.9999999999999999, 1.0000000000000002, 3.5,
            2147483647.5, 4294967294.5, 4294967294.9999995, 4294967295.0000005, 4294967295.5, 4294967296.0, 4294967297.0,
            8589934592.0, 9007199254740992.0, 1.8446744073709552E19, Double.MAX_VALUE, -2147483648.0, -4294967295.0,
            -4294967296.0, Double.POSITIVE_INFINITY, Double.NEGATIVE_INFINITY, Double.NaN};
        for (double d : bad) {
            dueBad(4, Check.number(d));
        }
    }

    private static void badAheadOfRefusals() {
        CHECK.sentence(ARRAY, "(objects and undefined are; ahead of all refusals)");
        for (int kind : new int[] {0, 4, 5}) {
            long bits = kind == 4 ? Check.number(-1) : 0;
            Supplier<PropertyStore> frozen = () -> {
                PropertyStore x = withOperand(kind, bits).get();
                x.lock(0, 2);
                return x;
            };
            for (int told : new int[] {VALUE, VALUE | W, VALUE | E, VALUE | C, VALUE | WEC}) {
                CHECK.leaves("a frozen array's, told " + told, 3, frozen, x -> x.define(0, LENGTH, told, WEC, -1, -1));
                CHECK.leaves("told " + told, 3, withOperand(kind, bits), x -> x.define(0, LENGTH, told, WEC, -1, -1));
            }
        }
    }

    private static PropertyStore cut(double length, boolean writable) {
        PropertyStore x = array(0, 1, 3);
        if (!writable) {
            x.define(0, LENGTH, W, 0, -1, -1);
        }
        x.operand(4, Check.number(length));
        return x;
    }

    private static void dueCut(String call, double length, boolean writable, int told, int flags) {
        CHECK.leaves(call, 2, () -> cut(length, writable), x -> x.define(0, LENGTH, told, flags, -1, -1));
    }

    private static void lengthNotBelow() {
        CHECK.sentence(ARRAY, "When it is not below the length: as above, with it for the value.");
        for (double d : new double[] {4, 5, MOST_LENGTH}) {
            PropertyStore x = cut(d, true);
            CHECK.due("the length " + d, x.define(0, LENGTH, VALUE, 0, -1, -1), 0);
            CHECK.dueLength(x, 0, d, W);
            CHECK.dueKeys(x, 0, 0, 1, 3, LENGTH);
            PropertyStore y = cut(d, true);
            CHECK.due("the length " + d + ", not writable", y.define(0, LENGTH, VALUE | W, 0, -1, -1), 0);
            CHECK.dueLength(y, 0, d, 0);
            dueCut("the length " + d + ", enumerable", d, true, VALUE | E, E);
            dueCut("the length " + d + ", configurable", d, true, VALUE | C, C);
        }
        CHECK.leaves("not writable, the same", 0, () -> cut(4, false), x -> x.define(0, LENGTH, VALUE | WEC, 0, -1, -1));
        dueCut("not writable, the same, writable", 4, false, VALUE | W, W);
        dueCut("not writable, one more", 5, false, VALUE, 0);
    }

    private static void lengthBelowNotWritable() {
        CHECK.sentence(ARRAY, "Otherwise: refused when the length is not writable");
        for (double d : new double[] {0, 1, 3}) {
            dueCut("the length " + d, d, false, VALUE, 0);
            dueCut("the length " + d + ", not writable", d, false, VALUE | W, 0);
            dueCut("the length " + d + ", writable", d, false, VALUE | W, W);
        }
        CHECK.leaves("an empty array's, one lower", 2, () -> {
            PropertyStore x = array();
            defineNumber(x, 0, LENGTH, VALUE | W, 0, MOST_LENGTH);
            x.operand(4, Check.number(MOST_LENGTH - 1));
            return x;
        }, x -> x.define(0, LENGTH, VALUE, 0, -1, -1));
    }

    private static void lengthBelowDefined() {
        CHECK.sentence(ARRAY, "then it is defined as above, but with writable told to be true if it was told to be false");
        PropertyStore x = cut(3, true);
        CHECK.due("not writable, lower", x.define(0, LENGTH, VALUE | W, 0, -1, -1), 0);
        CHECK.dueLength(x, 0, 3, 0);
        CHECK.dueKeys(x, 0, 0, 1, LENGTH);
        PropertyStore y = cut(3, true);
        CHECK.due("writable, lower", y.define(0, LENGTH, VALUE | WEC, W, -1, -1), 0);
        CHECK.dueLength(y, 0, 3, W);
        PropertyStore z = cut(3, true);
        CHECK.due("lower", z.define(0, LENGTH, VALUE, 0, -1, -1), 0);
        CHECK.dueLength(z, 0, 3, W);
    }

    private static void lengthBelowRefused() {
        CHECK.sentence(ARRAY, "if that is refused, it ends there");
        for (double d : new double[] {0, 3}) {
            dueCut("the length " + d + ", enumerable", d, true, VALUE | E, E);
            dueCut("the length " + d + ", configurable", d, true, VALUE | C, C);
            dueCut("the length " + d + ", not writable but enumerable", d, true, VALUE | W | E, E);
            dueCut("the length " + d + ", not writable but configurable", d, true, VALUE | W | C, C);
        }
    }

    private static void dueDeleted(long[] indices, double length, long... left) {
        PropertyStore x = array(indices);
        x.put(0, -5);
        CHECK.due("put of the length " + length, putNumber(x, 0, LENGTH, length), 0);
        CHECK.dueLength(x, 0, length, W);
        CHECK.dueKeys(x, 0, left);
    }

    private static void lengthDeletes() {
        CHECK.sentence(ARRAY, "else own indices that are not below it are deleted, from the highest one down");
        long[] some = {0, 2, 5, 2147483648L, LAST_INDEX};
        dueDeleted(some, 0, LENGTH, -5);
        dueDeleted(some, 1, 0, LENGTH, -5);
        dueDeleted(some, 2, 0, LENGTH, -5);
        dueDeleted(some, 3, 0, 2, LENGTH, -5);
        dueDeleted(some, 2147483648.0, 0, 2, 5, LENGTH, -5);
        dueDeleted(some, 2147483649.0, 0, 2, 5, 2147483648L, LENGTH, -5);
        dueDeleted(some, 4294967294.0, 0, 2, 5, 2147483648L, LENGTH, -5);
        dueDeleted(some, MOST_LENGTH, 0, 2, 5, 2147483648L, LAST_INDEX, LENGTH, -5);
        dueDeleted(new long[0], 0, LENGTH, -5);
    }

    private static PropertyStore withFixed(long fixed, long... indices) {
        PropertyStore x = array(indices);
        x.define(0, fixed, C, 0, -1, -1);
        return x;
    }

    private static void lengthStopsAtFixed() {
        CHECK.sentence(ARRAY, "at the first that is not configurable the length becomes that index and one more, "
                + "and it is refused in the end.");
        PropertyStore x = withFixed(2, 0, 1, 2, 5, LAST_INDEX);
        x.define(0, 0, C, 0, -1, -1);
        CHECK.due("down to 0", putNumber(x, 0, LENGTH, 0), 2);
        CHECK.due("kind()", x.kind(), 0);
        CHECK.dueLength(x, 0, 3, W);
        CHECK.dueKeys(x, 0, 0, 1, 2, LENGTH);
        CHECK.due("down to 2 again", defineNumber(x, 0, LENGTH, VALUE, 0, 2), 2);
        CHECK.dueLength(x, 0, 3, W);
        CHECK.due("down to 3", defineNumber(x, 0, LENGTH, VALUE, 0, 3), 0);
        PropertyStore highest = withFixed(LAST_INDEX, 0, LAST_INDEX);
        CHECK.due("the highest index is fixed", putNumber(highest, 0, LENGTH, 0), 2);
        CHECK.dueLength(highest, 0, MOST_LENGTH, W);
        CHECK.dueKeys(highest, 0, 0, LAST_INDEX, LENGTH);
        PropertyStore lowest = withFixed(0, 0, 1);
        CHECK.due("the index 0 is fixed", putNumber(lowest, 0, LENGTH, 0), 2);
        CHECK.dueLength(lowest, 0, 1, W);
        CHECK.dueKeys(lowest, 0, 0, LENGTH);
        PropertyStore below = withFixed(1, 0, 1, 2);
        CHECK.due("a fixed one below it does not matter", putNumber(below, 0, LENGTH, 2), 0);
        CHECK.dueKeys(below, 0, 0, 1, LENGTH);
        PropertyStore accessor = array(0, 2);
        accessor.define(0, 1, GETTER, 0, 0, -1);
        CHECK.due("a fixed accessor", putNumber(accessor, 0, LENGTH, 0), 2);
        CHECK.dueLength(accessor, 0, 2, W);
        PropertyStore name = withFixed(-2, 0, 1, -2);
        CHECK.due("a fixed name does not matter", putNumber(name, 0, LENGTH, 0), 0);
        CHECK.dueKeys(name, 0, LENGTH, -2);
    }

    private static void lengthBecomesNotWritable() {
        CHECK.sentence(ARRAY, "At the end (also when a deletion was refused) the length becomes not writable if that was told.");
        PropertyStore x = withFixed(2, 0, 1, 2, 5);
        CHECK.due("refused, and not writable", defineNumber(x, 0, LENGTH, VALUE | W, 0, 1), 2);
        CHECK.dueLength(x, 0, 3, 0);
        CHECK.dueKeys(x, 0, 0, 1, 2, LENGTH);
        PropertyStore y = withFixed(2, 0, 1, 2, 5);
        CHECK.due("refused, and writable", defineNumber(y, 0, LENGTH, VALUE | W, W, 1), 2);
        CHECK.dueLength(y, 0, 3, W);
        PropertyStore z = array(0, 1, 2, 5);
        CHECK.due("not refused, and not writable", defineNumber(z, 0, LENGTH, VALUE | W, 0, 0), 0);
        CHECK.dueLength(z, 0, 0, 0);
    }

    private static void lengthOfLockedArray() {
        CHECK.sentence(ARRAY, "then it is defined as above");
        PropertyStore x = array(0, 1);
        x.lock(0, 0);
        CHECK.due("not extensible, lower", putNumber(x, 0, LENGTH, 1), 0);
        CHECK.dueKeys(x, 0, 0, LENGTH);
        CHECK.due("not extensible, higher", putNumber(x, 0, LENGTH, MOST_LENGTH), 0);
        CHECK.dueLength(x, 0, MOST_LENGTH, W);
        PropertyStore y = array(0, 1);
        y.lock(0, 1);
        CHECK.due("sealed, lower", putNumber(y, 0, LENGTH, 1), 2);
        CHECK.dueLength(y, 0, 2, W);
        CHECK.due("sealed, higher", putNumber(y, 0, LENGTH, 3), 0);
        CHECK.dueLength(y, 0, 3, W);
        CHECK.due("sealed, down to what is there", putNumber(y, 0, LENGTH, 2), 0);
        CHECK.dueLength(y, 0, 2, W);
    }

    private static void indexNotBelowFixedLength() {
        CHECK.sentence(ARRAY, "An INDEX that is not below the length: refused when the length is not writable");
        for (long index : new long[] {4, 5, LAST_INDEX}) {
            for (int told : new int[] {0, VALUE | WEC, GETTER}) {
                CHECK.leaves("define of index " + index, 2, () -> cut(0, false),
                        x -> x.define(0, index, told, WEC, 0, -1));
            }
            CHECK.leavesPut("put of index " + index, 2, () -> cut(0, false), 0, index);
        }
        CHECK.leaves("define of index 0 of an empty array", 2, () -> {
            PropertyStore x = array();
            x.define(0, LENGTH, W, 0, -1, -1);
            return x;
        }, x -> x.define(0, 0, 0, 0, -1, -1));
        PropertyStore y = cut(0, false);
        CHECK.due("define of the last index below", y.define(0, 2, 0, 0, -1, -1), 0);
        CHECK.due("delete(0, 3)", y.delete(0, 3), true);
        CHECK.due("put of it again", y.put(0, 3), 0);
        CHECK.dueLength(y, 0, 4, 0);
    }

    private static void indexNotBelow() {
        CHECK.sentence(ARRAY, "defined as above; if that is not refused, the length becomes the index and one more.");
        for (long index : new long[] {4, 5, 2147483647L, 2147483648L, 4294967293L, LAST_INDEX}) {
            PropertyStore x = array(0, 1, 3);
            CHECK.due("define of index " + index, x.define(0, index, 0, 0, -1, -1), 0);
            CHECK.due("own(0, " + index + ")", x.own(0, index), 0);
            CHECK.dueLength(x, 0, index + 1, W);
        }
        PropertyStore y = array();
        CHECK.due("the index 0 of an empty array, as accessor", y.define(0, 0, SETTER, 0, -1, 0), 0);
        CHECK.dueLength(y, 0, 1, W);
    }

    private static void indexRefused() {
        CHECK.sentence(ARRAY, "if that is not refused");
        Supplier<PropertyStore> locked = () -> {
            PropertyStore x = array(0, 1, 3);
            x.lock(0, 0);
            return x;
        };
        for (long index : new long[] {2, 4, LAST_INDEX}) {
            CHECK.leaves("define of index " + index, 2, locked, x -> x.define(0, index, VALUE, 0, -1, -1));
            CHECK.leavesPut("put of index " + index, 2, locked, 0, index);
        }
    }

    private static void indexBelow() {
        CHECK.sentence(ARRAY, "An INDEX that is not below the length");
        PropertyStore x = array(LAST_INDEX);
        CHECK.due("define of index 0", x.define(0, 0, 0, 0, -1, -1), 0);
        CHECK.due("define of the index below the highest", x.define(0, LAST_INDEX - 1, 0, 0, -1, -1), 0);
        CHECK.due("define of the highest again", x.define(0, LAST_INDEX, E, 0, -1, -1), 0);
        CHECK.dueLength(x, 0, MOST_LENGTH, W);
        CHECK.dueKeys(x, 0, 0, LAST_INDEX - 1, LAST_INDEX, LENGTH);
    }
}
