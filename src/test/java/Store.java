/** The document's calls, for tests that make them on a PropertyStore and on the model alike. */
interface Store {
    void object(int r, int p, boolean array);

    void copy(int r, int s);

    boolean same(int r, int s);

    void operand(int kind, long bits);

    int kind();

    long bits();

    void hold(int r);

    int get(int r, long key);

    int put(int r, long key);

    int define(int r, long key, int told, int flags, int getter, int setter);

    int own(int r, long key);

    boolean setter(int r, long key, int s);

    boolean has(int r, long key);

    boolean delete(int r, long key);

    int keys(int r);

    long key(int r, int k);

    void lock(int r, int how);

    boolean locked(int r, int how);

    void prototype(int r, int s);

    void stress(int n);
}
