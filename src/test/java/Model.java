import java.util.ArrayList;
import java.util.HashMap;
import java.util.List;
import java.util.Map;
import java.util.TreeMap;

/** A second writing of the document, with the Java library and no memory of its own. */
final class Model implements Store {
    static final int W = 2;
    static final int E = 16;
    static final int C = 32;

    static final class Value {
        final int kind;
        final long bits;
        final Thing thing;

        Value(int kind, long bits, Thing thing) {
            this.kind = kind;
            this.bits = kind == 4 ? bits : 0;
            this.thing = kind == 5 ? thing : null;
        }

        boolean isSame(Value v) {
            return kind == v.kind && bits == v.bits && thing == v.thing;
        }
    }

    static final Value NOTHING = new Value(0, 0, null);

    static final class Property {
        boolean accessor;
        boolean writable;
        boolean enumerable;
        boolean configurable;
        Value value = NOTHING;
        Thing getter;
        Thing setter;
    }

    static final class Thing {
        final Thing prototype;
        final boolean array;
        boolean extensible = true;
        final TreeMap<Long, Property> indices = new TreeMap<>();
        final List<Long> nameOrder = new ArrayList<>();
        final Map<Long, Property> names = new HashMap<>();

        Thing(Thing prototype, boolean array) {
            this.prototype = prototype;
            this.array = array;
            if (array) {
                Property length = new Property();
                length.writable = true;
                length.value = number(0);
                insert(-1, length);
            }
        }

        Property mine(long key) {
            return key >= 0 ? indices.get(key) : names.get(key);
        }

        Property any(long key) {
            for (Thing t = this; t != null; t = t.prototype) {
                if (t.mine(key) != null) {
                    return t.mine(key);
                }
            }
            return null;
        }

        void insert(long key, Property p) {
            if (key >= 0) {
                indices.put(key, p);
            } else {
                names.put(key, p);
                nameOrder.add(key);
            }
        }

        void drop(long key) {
            indices.remove(key);
            names.remove(key);
            nameOrder.remove(Long.valueOf(key));
        }

        List<Long> order() {
            List<Long> all = new ArrayList<>(indices.keySet());
            all.addAll(nameOrder);
            return all;
        }

        List<Property> all() {
            List<Property> all = new ArrayList<>(indices.values());
            all.addAll(names.values());
            return all;
        }

        long length() {
            return (long) Double.longBitsToDouble(mine(-1).value.bits);
        }
    }

    /** A description; null is what is not told. */
    static final class Told {
        Value value;
        Boolean writable;
        Boolean enumerable;
        Boolean configurable;
        boolean getterTold;
        boolean setterTold;
        Thing getter;
        Thing setter;
    }

    private final Thing[] roots = new Thing[24];
    private Value operand = NOTHING;
    private Value result = NOTHING;

    private static Value number(long n) {
        return new Value(4, Double.doubleToRawLongBits((double) n), null);
    }

    private static void need(boolean right) {
        if (!right) {
            throw new IllegalArgumentException();
        }
    }

    private static boolean isRoot(long r) {
        return 0 <= r && r <= 23;
    }

    boolean holds(int r) {
        return isRoot(r) && roots[r] != null;
    }

    private Thing at(int r) {
        need(holds(r));
        return roots[r];
    }

    private Thing at(int r, long key) {
        need(key >= -64 && key <= 4294967294L);
        return at(r);
    }

    public void object(int r, int p, boolean array) {
        need(isRoot(r));
        roots[r] = new Thing(p == -1 ? null : at(p), array);
    }

    public void copy(int r, int s) {
        need(isRoot(r) && (s == -1 || isRoot(s)));
        roots[r] = s == -1 ? null : roots[s];
    }

    public boolean same(int r, int s) {
        need(isRoot(r) && isRoot(s));
        return roots[r] == roots[s];
    }

    public void operand(int kind, long bits) {
        need(kind >= 0 && kind <= 5);
        need(kind != 5 || isRoot(bits) && roots[(int) bits] != null);
        long kept = Double.isNaN(Double.longBitsToDouble(bits)) ? 0x7FF8000000000000L : bits;
        operand = new Value(kind, kept, kind == 5 ? roots[(int) bits] : null);
    }

    public int kind() {
        return result.kind;
    }

    public long bits() {
        if (result.kind != 4) {
            throw new IllegalStateException();
        }
        return result.bits;
    }

    public void hold(int r) {
        need(isRoot(r));
        if (result.kind != 5) {
            throw new IllegalStateException();
        }
        roots[r] = result.thing;
    }

    private static Value orNothing(Thing t) {
        return t == null ? NOTHING : new Value(5, 0, t);
    }

    public int get(int r, long key) {
        Property p = at(r, key).any(key);
        if (p == null) {
            result = NOTHING;
            return 0;
        }
        result = p.accessor ? orNothing(p.getter) : p.value;
        return p.accessor && p.getter != null ? 1 : 0;
    }

    public int put(int r, long key) {
        Thing t = at(r, key);
        Property p = t.any(key);
        result = NOTHING;
        if (p != null && p.accessor) {
            result = orNothing(p.setter);
            return p.setter == null ? 2 : 1;
        }
        Told told = new Told();
        told.value = operand;
        if (t.mine(key) != null) {
            return p.writable ? defineAny(t, key, told) : 2;
        }
        if (!t.extensible || p != null && !p.writable) {
            return 2;
        }
        told.writable = true;
        told.enumerable = true;
        told.configurable = true;
        return defineAny(t, key, told);
    }

    public int define(int r, long key, int told, int flags, int getter, int setter) {
        Thing t = at(r, key);
        need(told >= 0 && told <= 63);
        need((told & 3) == 0 || (told & 12) == 0);
        Told d = new Told();
        if ((told & 4) != 0) {
            d.getterTold = true;
            d.getter = getter == -1 ? null : at(getter);
        }
        if ((told & 8) != 0) {
            d.setterTold = true;
            d.setter = setter == -1 ? null : at(setter);
        }
        d.value = (told & 1) != 0 ? operand : null;
        d.writable = (told & W) != 0 ? (Boolean) ((flags & W) != 0) : null;
        d.enumerable = (told & E) != 0 ? (Boolean) ((flags & E) != 0) : null;
        d.configurable = (told & C) != 0 ? (Boolean) ((flags & C) != 0) : null;
        return defineAny(t, key, d);
    }

    private static int defineAny(Thing t, long key, Told d) {
        if (t.array && key == -1 && d.value != null) {
            return defineLength(t, d);
        }
        if (t.array && key >= 0 && key >= t.length()) {
            if (!t.mine(-1).writable) {
                return 2;
            }
            int answer = defineAbove(t, key, d);
            if (answer == 0) {
                t.mine(-1).value = number(key + 1);
            }
            return answer;
        }
        return defineAbove(t, key, d);
    }

    private static double numberOf(Value v) {
        switch (v.kind) {
            case 1:
            case 2:
                return 0;
            case 3:
                return 1;
            case 4:
                return Double.longBitsToDouble(v.bits);
            default:
                return Double.NaN;
        }
    }

    private static int defineLength(Thing t, Told d) {
        double n = numberOf(d.value);
        if (!(n >= 0 && n <= 4294967295.0 && n == Math.floor(n))) {
            return 3;
        }
        long asked = (long) n;
        Property length = t.mine(-1);
        d.value = number(asked);
        if (asked >= t.length()) {
            return defineAbove(t, -1, d);
        }
        if (!length.writable) {
            return 2;
        }
        boolean closes = d.writable != null && !d.writable;
        if (closes) {
            d.writable = true;
        }
        if (defineAbove(t, -1, d) == 2) {
            return 2;
        }
        int answer = 0;
        while (!t.indices.isEmpty() && t.indices.lastKey() >= asked) {
            long last = t.indices.lastKey();
            if (!t.indices.get(last).configurable) {
                length.value = number(last + 1);
                answer = 2;
                break;
            }
            t.indices.remove(last);
        }
        if (closes) {
            length.writable = false;
        }
        return answer;
    }

    private static int defineAbove(Thing t, long key, Told d) {
        Property p = t.mine(key);
        if (p == null) {
            if (!t.extensible) {
                return 2;
            }
            p = new Property();
            p.accessor = d.getterTold || d.setterTold;
            take(p, d);
            t.insert(key, p);
            return 0;
        }
        if (isAsTold(p, d)) {
            return 0;
        }
        if (!p.configurable && isRefused(p, d)) {
            return 2;
        }
        if (p.accessor && (d.value != null || d.writable != null)) {
            p.accessor = false;
            p.getter = null;
            p.setter = null;
            p.value = NOTHING;
            p.writable = false;
        } else if (!p.accessor && (d.getterTold || d.setterTold)) {
            p.accessor = true;
            p.value = NOTHING;
            p.writable = false;
        }
        take(p, d);
        return 0;
    }

    private static boolean isAsTold(Property p, Told d) {
        boolean same = d.enumerable == null || d.enumerable == p.enumerable;
        same &= d.configurable == null || d.configurable == p.configurable;
        same &= d.value == null || !p.accessor && d.value.isSame(p.value);
        same &= d.writable == null || !p.accessor && d.writable == p.writable;
        same &= !d.getterTold || p.accessor && d.getter == p.getter;
        same &= !d.setterTold || p.accessor && d.setter == p.setter;
        return same;
    }

    private static boolean isRefused(Property p, Told d) {
        if (d.configurable != null && d.configurable) {
            return true;
        }
        if (d.enumerable != null && d.enumerable != p.enumerable) {
            return true;
        }
        if ((d.value != null || d.writable != null) && p.accessor) {
            return true;
        }
        if ((d.getterTold || d.setterTold) && !p.accessor) {
            return true;
        }
        if (!p.accessor && !p.writable) {
            return d.writable != null && d.writable || d.value != null && !d.value.isSame(p.value);
        }
        return p.accessor && (d.getterTold && d.getter != p.getter || d.setterTold && d.setter != p.setter);
    }

    private static void take(Property p, Told d) {
        p.value = d.value != null ? d.value : p.value;
        p.writable = d.writable != null ? d.writable : p.writable;
        p.enumerable = d.enumerable != null ? d.enumerable : p.enumerable;
        p.configurable = d.configurable != null ? d.configurable : p.configurable;
        p.getter = d.getterTold ? d.getter : p.getter;
        p.setter = d.setterTold ? d.setter : p.setter;
    }

    public int own(int r, long key) {
        Property p = at(r, key).mine(key);
        if (p == null) {
            result = NOTHING;
            return -1;
        }
        result = p.accessor ? orNothing(p.getter) : p.value;
        int sum = (p.enumerable ? E : 0) + (p.configurable ? C : 0);
        return sum + (p.accessor ? 64 : p.writable ? W : 0);
    }

    public boolean setter(int r, long key, int s) {
        Property p = at(r, key).mine(key);
        need(isRoot(s));
        if (p == null || !p.accessor || p.setter == null) {
            return false;
        }
        roots[s] = p.setter;
        return true;
    }

    public boolean has(int r, long key) {
        return at(r, key).any(key) != null;
    }

    public boolean delete(int r, long key) {
        Thing t = at(r, key);
        Property p = t.mine(key);
        if (p != null && !p.configurable) {
            return false;
        }
        t.drop(key);
        return true;
    }

    public int keys(int r) {
        return at(r).order().size();
    }

    public long key(int r, int k) {
        List<Long> order = at(r).order();
        need(k >= 0 && k < order.size());
        return order.get(k);
    }

    public void lock(int r, int how) {
        Thing t = at(r);
        need(how >= 0 && how <= 2);
        t.extensible = false;
        for (Property p : t.all()) {
            p.configurable &= how < 1;
            p.writable &= how < 2;
        }
    }

    public boolean locked(int r, int how) {
        Thing t = at(r);
        need(how >= 0 && how <= 2);
        boolean so = !t.extensible;
        for (Property p : t.all()) {
            so &= how < 1 || !p.configurable;
            so &= how < 2 || p.accessor || !p.writable;
        }
        return so;
    }

    public void prototype(int r, int s) {
        Thing t = at(r);
        need(isRoot(s));
        roots[s] = t.prototype;
    }

    public void stress(int n) {
        need(n >= 0);
    }
}
