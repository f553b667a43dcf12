/** A PropertyStore as a Store. */
final class Real implements Store {
    private final PropertyStore x;

    Real(PropertyStore x) {
        this.x = x;
    }

    public void object(int r, int p, boolean array) {
        x.object(r, p, array);
    }

    public void copy(int r, int s) {
        x.copy(r, s);
    }

    public boolean same(int r, int s) {
        return x.same(r, s);
    }

    public void operand(int kind, long bits) {
        x.operand(kind, bits);
    }

    public int kind() {
        return x.kind();
    }

    public long bits() {
        return x.bits();
    }

    public void hold(int r) {
        x.hold(r);
    }

    public int get(int r, long key) {
        return x.get(r, key);
    }

    public int put(int r, long key) {
        return x.put(r, key);
    }

    public int define(int r, long key, int told, int flags, int getter, int setter) {
        return x.define(r, key, told, flags, getter, setter);
    }

    public int own(int r, long key) {
        return x.own(r, key);
    }

    public boolean setter(int r, long key, int s) {
        return x.setter(r, key, s);
    }

    public boolean has(int r, long key) {
        return x.has(r, key);
    }

    public boolean delete(int r, long key) {
        return x.delete(r, key);
    }

    public int keys(int r) {
        return x.keys(r);
    }

    public long key(int r, int k) {
        return x.key(r, k);
    }

    public void lock(int r, int how) {
        x.lock(r, how);
    }

    public boolean locked(int r, int how) {
        return x.locked(r, how);
    }

    public void prototype(int r, int s) {
        x.prototype(r, s);
    }

    public void stress(int n) {
        x.stress(n);
    }
}
