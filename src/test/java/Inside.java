import java.lang.reflect.Constructor;
import java.lang.reflect.Field;
import java.lang.reflect.Method;

/**
 * The memory inside a PropertyStore. How the state is held is free by the document, so that it is found
 * by name: a class with another memory is still compiled with all other tests, and passes or fails there.
 */
final class Inside {
    static final int NONE = 0;
    static final int LINK = 1;
    static final int WORD = 4;
    static final int FIELDS = 8;
    static final int FIRST_BLOCKS = 64;
    static final int MOST_BLOCKS = 1024;
    static final int SLOTS = 27;

    private final Object memory;
    private final Method make;
    private final Method keep;
    private final Method kept;
    private final Method word;
    private final Method setWord;
    private final Method collectBeforeEach;

    private Inside(Object memory) throws ReflectiveOperationException {
        this.memory = memory;
        make = method("make");
        keep = method("keep", int.class, int.class);
        kept = method("kept", int.class);
        word = method("word", int.class, int.class);
        setWord = method("setWord", int.class, int.class, long.class);
        collectBeforeEach = method("collectBeforeEach", int.class);
    }

    static boolean isThere() {
        try {
            fresh();
            return true;
        } catch (ReflectiveOperationException e) {
            return false;
        }
    }

    static Inside fresh() throws ReflectiveOperationException {
        Constructor<?> constructor = Class.forName("PropertyStore$Memory").getDeclaredConstructor();
        return new Inside(constructor.newInstance());
    }

    static Inside of(PropertyStore x) throws ReflectiveOperationException {
        Field field = PropertyStore.class.getDeclaredField("memory");
        field.setAccessible(true);
        return new Inside(field.get(x));
    }

    private Method method(String name, Class<?>... parameters) throws ReflectiveOperationException {
        return memory.getClass().getDeclaredMethod(name, parameters);
    }

    int make() throws ReflectiveOperationException {
        return (int) make.invoke(memory);
    }

    void keep(int slot, int block) throws ReflectiveOperationException {
        keep.invoke(memory, slot, block);
    }

    int kept(int slot) throws ReflectiveOperationException {
        return (int) kept.invoke(memory, slot);
    }

    long word(int block, int field) throws ReflectiveOperationException {
        return (long) word.invoke(memory, block, field);
    }

    void setWord(int block, int field, long to) throws ReflectiveOperationException {
        setWord.invoke(memory, block, field, to);
    }

    void collectBeforeEach(int n) throws ReflectiveOperationException {
        collectBeforeEach.invoke(memory, n);
    }
}
