/** Stores that tests begin with, short forms of calls, and the bits of descriptions; tests extend it. */
abstract class Scene {
    static final int VALUE = 1;
    static final int W = 2;
    static final int GETTER = 4;
    static final int SETTER = 8;
    static final int E = 16;
    static final int C = 32;
    static final int ACCESSOR = 64;
    static final int WEC = W | E | C;

    static final int EMPTY = 15;
    static final int OTHER = 14;
    static final long LENGTH = -1;
    static final long LAST_NAME = -64;
    static final long LAST_INDEX = 4294967294L;
    static final double MOST_LENGTH = 4294967295.0;

    private static final int[] STRESSES = {0, 1, 2, 3};

    /** What fresh stores are told; 0: nothing. */
    static int stress;

    /** No answer changes by collections: all tests are due without stress and with it. */
    static void withEachStress(Runnable tests) {
        for (int n : STRESSES) {
            stress = n;
            tests.run();
        }
        stress = 0;
    }

    static PropertyStore fresh() {
        PropertyStore x = new PropertyStore();
        if (stress != 0) {
            x.stress(stress);
        }
        return x;
    }

    /** An array, an object behind it, accessors, and a result and an operand that are objects. */
    static PropertyStore rich() {
        PropertyStore x = fresh();
        x.object(0, -1, true);
        x.object(1, 0, false);
        x.object(2, -1, false);
        x.object(3, 2, false);
        putNumber(x, 0, 0, 7);
        putNumber(x, 0, 3, 8);
        putNumber(x, 1, -2, 9);
        x.define(1, -3, GETTER | SETTER | C, C, 2, 3);
        x.operand(5, 2);
        x.put(1, 4);
        x.get(1, 4);
        return x;
    }

    /** An array in root 0 with the number 1 at some indices. */
    static PropertyStore array(long... indices) {
        PropertyStore x = fresh();
        x.object(0, -1, true);
        for (long index : indices) {
            putNumber(x, 0, index, 1);
        }
        return x;
    }

    /** An object in root 0 with a property at name 1, and objects in the roots 1 and 2. */
    static PropertyStore withProperty(int told, int flags, int getter, int setter) {
        PropertyStore x = fresh();
        x.object(0, -1, false);
        x.object(1, -1, false);
        x.object(2, -1, false);
        x.operand(4, Check.number(5));
        x.define(0, -2, told, flags, getter, setter);
        return x;
    }

    static int putNumber(PropertyStore x, int r, long key, double d) {
        x.operand(4, Check.number(d));
        return x.put(r, key);
    }

    static int defineNumber(PropertyStore x, int r, long key, int told, int flags, double d) {
        x.operand(4, Check.number(d));
        return x.define(r, key, told, flags, -1, -1);
    }

    /** Makes blocks until each free one has been used and written again; the result and the operand stay. */
    static void churn(PropertyStore x) {
        x.object(20, -1, false);
        for (int n = 0; n < 70; n++) {
            x.define(20, n % 30, C, C, -1, -1);
            x.delete(20, n % 30);
        }
        x.copy(20, -1);
    }
}
