import java.util.ArrayList;
import java.util.List;
import java.util.function.ToLongFunction;

/**
 * Each state that a property can be in, with each call that tells of it or changes it, on a store and on
 * the model: the answer and all that can be seen behind it must be the same.
 */
public final class EveryCaseTest extends Scene {
    private static final Check CHECK = new Check("EveryCaseTest");
    private static final long NAME = -2;
    private static final long INDEX = 3;
    private static final int[] NONE_OR_1 = {-1, 1};
    private static final int[] NONE_OR_2 = {-1, 2};
    private static final int[] NONE_OR_BOTH = {-1, 1, 2};
    private static final int[] NONE = {-1};
    private static final long[][] VALUES = {{0, 0}, {4, Check.number(5)}, {4, Check.number(6)}, {5, 1}};
    private static final long[][] LENGTHS = {
        {0, 0}, {1, 0}, {2, 0}, {3, 0}, {5, 0}, {4, Check.number(0)}, {4, Check.number(-0.0)}, {4, Check.number(1)},
        {4, Check.number(2)}, {4, Check.number(3)}, {4, Check.number(4)}, {4, Check.number(5)},
        {4, Check.number(MOST_LENGTH)}, {4, Check.number(MOST_LENGTH + 1)}, {4, Check.number(-1)},
        {4, Check.number(2.5)}, {4, Check.number(Double.NaN)},
    };

    private static int cases;

    private record Step(String name, ToLongFunction<Store> call) {
    }

    public static void main(String[] args) {
        definitions();
        lengths();
        withPrototypes();
        locks();
        CHECK.end();
    }

    /** Makes the steps on both; stress is 0, 1 and 2 by turns. */
    private static void dueAlike(Step... steps) {
        stress = cases % 3;
        cases++;
        String got = played(new Real(fresh()), steps);
        String due = played(new Model(), steps);
        CHECK.due(got.equals(due) ? "" : names(steps), got, due);
    }

    private static String played(Store x, Step... steps) {
        long answer = 0;
        for (Step step : steps) {
            answer = step.call.applyAsLong(x);
        }
        return answer + ", " + Check.picture(x);
    }

    private static String names(Step... steps) {
        StringBuilder names = new StringBuilder();
        for (Step step : steps) {
            names.append(step.name).append("; ");
        }
        return names.toString();
    }

    /** Objects in the roots 0, 1, 2, of which 0's may be an array. */
    private static Step objects(boolean array) {
        return new Step("objects, array " + array, x -> {
            x.object(0, -1, array);
            x.object(1, -1, false);
            x.object(2, -1, false);
            return 0;
        });
    }

    private static Step behind(boolean array) {
        return new Step("object(3, 0, " + array + ")", x -> {
            x.object(3, 0, array);
            return 0;
        });
    }

    private static Step lock(int r, int how) {
        return new Step("lock(" + r + ", " + how + ")", x -> {
            if (how >= 0) {
                x.lock(r, how);
            }
            return 0;
        });
    }

    private static Step define(int r, long key, int told, int flags, int getter, int setter) {
        return new Step("define(" + r + ", " + key + ", " + told + ", " + flags + ", " + getter + ", " + setter + ")",
                x -> x.define(r, key, told, flags, getter, setter));
    }

    private static Step put(int r, long key) {
        return new Step("put(" + r + ", " + key + ")", x -> x.put(r, key));
    }

    private static Step operand(long[] value) {
        return new Step("operand(" + value[0] + ", " + value[1] + ")", x -> {
            x.operand((int) value[0], value[1]);
            return 0;
        });
    }

    private static Step inTurn(Step first, Step then) {
        return new Step(first.name + "; " + then.name, x -> {
            first.call.applyAsLong(x);
            return then.call.applyAsLong(x);
        });
    }

    private static boolean isPart(int flags, int of) {
        return (flags & ~of) == 0;
    }

    /** What a key can have: nothing, each data property with some values, each accessor. */
    private static List<Step> states(int r, long key) {
        List<Step> states = new ArrayList<>();
        states.add(new Step("nothing", x -> 0));
        for (int flags = 0; flags <= WEC; flags++) {
            for (int v = 0; v < VALUES.length && isPart(flags, WEC); v++) {
                states.add(inTurn(operand(VALUES[v]), define(r, key, VALUE | WEC, flags, -1, -1)));
            }
            for (int n = 0; n < 4 && isPart(flags, E | C); n++) {
                states.add(define(r, key, GETTER | SETTER | E | C, flags, NONE_OR_1[n / 2], NONE_OR_2[n % 2]));
            }
        }
        return states;
    }

    /** All that can be told of a key. */
    private static List<Step> descriptions(int r, long key, long[][] values) {
        List<Step> all = new ArrayList<>();
        for (int told = 0; told <= 63; told++) {
            boolean bothKinds = (told & (VALUE | W)) != 0 && (told & (GETTER | SETTER)) != 0;
            for (int flags = 0; flags <= WEC && !bothKinds; flags++) {
                if (isPart(flags, told & WEC)) {
                    describe(all, r, key, told, flags, values);
                }
            }
        }
        return all;
    }

    private static void describe(List<Step> all, int r, long key, int told, int flags, long[][] values) {
        if ((told & VALUE) != 0) {
            for (long[] value : values) {
                all.add(inTurn(operand(value), define(r, key, told, flags, -1, -1)));
            }
            return;
        }
        for (int getter : (told & GETTER) != 0 ? NONE_OR_BOTH : NONE) {
            for (int setter : (told & SETTER) != 0 ? NONE_OR_BOTH : NONE) {
                all.add(define(r, key, told, flags, getter, setter));
            }
        }
    }

    private static void definitions() {
        Step fixedLength = define(0, LENGTH, W, 0, -1, -1);
        Step asItIs = new Step("as it is", x -> 0);
        definitions(objects(false), NAME, asItIs);
        definitions(objects(false), INDEX, asItIs);
        definitions(objects(false), LENGTH, asItIs);
        definitions(objects(true), NAME, asItIs);
        definitions(objects(true), INDEX, asItIs);
        definitions(objects(true), INDEX, fixedLength);
    }

    private static void definitions(Step objects, long key, Step made) {
        List<Step> descriptions = descriptions(0, key, VALUES);
        for (Step state : states(0, key)) {
            for (Step description : descriptions) {
                dueAlike(objects, state, made, description);
                dueAlike(objects, state, made, lock(0, 0), description);
            }
        }
    }

    /** An array with the indices 0, 1 and 3, each of them fixed or not, and a length that is so or not. */
    private static Step arrayWithFixed(int fixed) {
        return new Step("array, fixed " + fixed, x -> {
            x.object(0, -1, true);
            x.object(1, -1, false);
            x.object(2, -1, false);
            x.define(0, 0, C, (fixed & 1) != 0 ? 0 : C, -1, -1);
            x.define(0, 1, C, (fixed & 2) != 0 ? 0 : C, -1, -1);
            x.define(0, 3, C, (fixed & 4) != 0 ? 0 : C, -1, -1);
            return x.define(0, LENGTH, W, (fixed & 8) != 0 ? 0 : W, -1, -1);
        });
    }

    private static void lengths() {
        List<Step> descriptions = descriptions(0, LENGTH, LENGTHS);
        for (long[] value : LENGTHS) {
            descriptions.add(inTurn(operand(value), put(0, LENGTH)));
        }
        for (int fixed = 0; fixed < 16; fixed++) {
            for (Step description : descriptions) {
                dueAlike(arrayWithFixed(fixed), description);
                dueAlike(arrayWithFixed(fixed), lock(0, 0), description);
            }
        }
    }

    private static List<Step> calls(int r, long key) {
        List<Step> calls = new ArrayList<>();
        calls.add(inTurn(operand(VALUES[2]), put(r, key)));
        calls.add(inTurn(operand(VALUES[3]), put(r, key)));
        calls.add(new Step("get", x -> x.get(r, key)));
        calls.add(new Step("own", x -> x.own(r, key)));
        calls.add(new Step("has", x -> x.has(r, key) ? 1 : 0));
        calls.add(new Step("setter", x -> x.setter(r, key, 9) ? 1 : 0));
        calls.add(new Step("delete", x -> x.delete(r, key) ? 1 : 0));
        return calls;
    }

    private static void withPrototypes() {
        withPrototypes(NAME, false);
        withPrototypes(INDEX, true);
    }

    private static void withPrototypes(long key, boolean array) {
        for (Step prototypes : states(0, key)) {
            for (Step own : states(3, key)) {
                for (Step call : calls(3, key)) {
                    dueAlike(objects(false), prototypes, behind(array), own, call);
                    dueAlike(objects(true), prototypes, behind(array), own, lock(3, 0), call);
                }
            }
        }
    }

    private static void locks() {
        for (Step first : states(0, NAME)) {
            for (Step second : states(0, INDEX)) {
                for (int how = -1; how <= 2; how++) {
                    dueAlike(objects(how == 1), first, second, lock(0, how));
                }
            }
        }
    }
}
