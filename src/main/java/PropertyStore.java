import java.util.Arrays;

/**
 * The objects of a script language, in a memory of their own that is collected at any moment.
 *
 * <p>This class looks at arguments and keeps the kinds of the operand and the result; ObjectSpace knows
 * what properties are, Memory knows blocks and collects them.
 */
public final class PropertyStore {

    private static final int DONE = 0;
    private static final int CALL = 1;
    private static final int REFUSED = 2;
    private static final int BAD = 3;

    private static final int VALUE = 1;
    private static final int WRITABLE = 2;
    private static final int GETTER = 4;
    private static final int SETTER = 8;
    private static final int ENUMERABLE = 16;
    private static final int CONFIGURABLE = 32;
    private static final int ACCESSOR = 64;
    private static final int ALL_TOLD = 63;
    private static final int ATTRIBUTES = WRITABLE | ENUMERABLE | CONFIGURABLE;

    private static final int UNDEFINED = 0;
    private static final int NULL = 1;
    private static final int FALSE = 2;
    private static final int TRUE = 3;
    private static final int NUMBER = 4;
    private static final int OBJECT = 5;

    private static final int ROOTS = 24;
    private static final int OPERAND = ROOTS;
    private static final int RESULT = ROOTS + 1;
    private static final int FRESH = ROOTS + 2;
    private static final int SLOTS = ROOTS + 3;

    private static final int NO_ROOT = -1;
    private static final long LENGTH = -1L;
    private static final long LOWEST_KEY = -64L;
    private static final long HIGHEST_KEY = 4294967294L;
    private static final int DEEPEST_LOCK = 2;

    private final ObjectSpace objects;
    private final Memory memory;
    private final Description description;
    private int operandKind;
    private long operandNumber;
    private int resultKind;
    private long resultNumber;

    public PropertyStore() {
        objects = new ObjectSpace();
        memory = objects.memory;
        description = new Description();
    }

    public void object(int r, int p, boolean array) throws IllegalArgumentException {
        needRoot(r);
        int made = objects.makeObject(heldOrNone(p), array);
        if (made == Memory.NONE) {
            // Only a store that has had more than its 512 calls comes here.
            throw new IllegalArgumentException("no room");
        }
        memory.keep(r, made);
    }

    public void copy(int r, int s) throws IllegalArgumentException {
        needRoot(r);
        if (s != NO_ROOT) {
            needRoot(s);
        }
        memory.keep(r, s == NO_ROOT ? Memory.NONE : memory.kept(s));
    }

    public boolean same(int r, int s) throws IllegalArgumentException {
        needRoot(r);
        needRoot(s);
        return memory.kept(r) == memory.kept(s);
    }

    public void operand(int kind, long bits) throws IllegalArgumentException {
        if (kind < UNDEFINED || kind > OBJECT) {
            throw new IllegalArgumentException("no such kind");
        }
        int object = Memory.NONE;
        if (kind == OBJECT) {
            object = held(bits >= 0 && bits < ROOTS ? (int) bits : NO_ROOT);
        }
        operandKind = kind;
        operandNumber = kind == NUMBER ? Numbers.withOneNaN(bits) : 0L;
        memory.keep(OPERAND, object);
    }

    public int kind() {
        return resultKind;
    }

    public long bits() throws IllegalStateException {
        if (resultKind != NUMBER) {
            throw new IllegalStateException("the result is no number");
        }
        return resultNumber;
    }

    public void hold(int r) throws IllegalArgumentException, IllegalStateException {
        needRoot(r);
        if (resultKind != OBJECT) {
            throw new IllegalStateException("the result is no object");
        }
        memory.keep(r, memory.kept(RESULT));
    }

    public int get(int r, long key) throws IllegalArgumentException {
        int object = heldWithKey(r, key);
        int property = objects.find(object, key);
        giveValue(property);
        return objects.isAccessor(property) && resultKind == OBJECT ? CALL : DONE;
    }

    public int put(int r, long key) throws IllegalArgumentException {
        int object = heldWithKey(r, key);
        int property = objects.find(object, key);
        if (objects.isAccessor(property)) {
            giveObject(objects.setterOf(property));
            return resultKind == OBJECT ? CALL : REFUSED;
        }
        boolean own = objects.findOwn(object, key) != Memory.NONE;
        boolean writable = property == Memory.NONE || objects.isAny(property, WRITABLE);
        int answer = REFUSED;
        if (writable && (own || objects.isExtensible(object))) {
            description.tell(own ? VALUE : VALUE | ATTRIBUTES, ATTRIBUTES);
            description.tellValue(operandKind, operandNumber, memory.kept(OPERAND));
            answer = objects.defineProperty(object, key, description);
        }
        giveObject(Memory.NONE);
        return answer;
    }

    public int define(int r, long key, int told, int flags, int getter, int setter)
            throws IllegalArgumentException {
        int object = heldWithKey(r, key);
        boolean data = (told & (VALUE | WRITABLE)) != 0;
        boolean accessor = (told & (GETTER | SETTER)) != 0;
        if (told < 0 || told > ALL_TOLD || data && accessor) {
            throw new IllegalArgumentException("no such description");
        }
        int toldGetter = (told & GETTER) != 0 ? heldOrNone(getter) : Memory.NONE;
        int toldSetter = (told & SETTER) != 0 ? heldOrNone(setter) : Memory.NONE;
        description.tell(told, flags);
        description.tellValue(operandKind, operandNumber, memory.kept(OPERAND));
        description.tellAccessor(toldGetter, toldSetter);
        return objects.defineProperty(object, key, description);
    }

    public int own(int r, long key) throws IllegalArgumentException {
        int property = objects.findOwn(heldWithKey(r, key), key);
        giveValue(property);
        return property == Memory.NONE ? -1 : objects.attributesOf(property);
    }

    public boolean setter(int r, long key, int s) throws IllegalArgumentException {
        int object = heldWithKey(r, key);
        needRoot(s);
        int found = objects.setterOf(objects.findOwn(object, key));
        if (found == Memory.NONE) {
            return false;
        }
        memory.keep(s, found);
        return true;
    }

    public boolean has(int r, long key) throws IllegalArgumentException {
        return objects.find(heldWithKey(r, key), key) != Memory.NONE;
    }

    public boolean delete(int r, long key) throws IllegalArgumentException {
        return objects.remove(heldWithKey(r, key), key);
    }

    public int keys(int r) throws IllegalArgumentException {
        return objects.count(held(r));
    }

    public long key(int r, int k) throws IllegalArgumentException {
        int property = objects.nth(held(r), k);
        if (property == Memory.NONE) {
            throw new IllegalArgumentException("no such turn among the keys");
        }
        return objects.keyOf(property);
    }

    public void lock(int r, int how) throws IllegalArgumentException {
        objects.close(heldWithLock(r, how), lockedAttributes(how));
    }

    public boolean locked(int r, int how) throws IllegalArgumentException {
        return objects.isClosed(heldWithLock(r, how), lockedAttributes(how));
    }

    public void prototype(int r, int s) throws IllegalArgumentException {
        int object = held(r);
        needRoot(s);
        memory.keep(s, objects.prototypeOf(object));
    }

    public void stress(int n) throws IllegalArgumentException {
        if (n < 0) {
            throw new IllegalArgumentException("below 0");
        }
        memory.collectBeforeEach(n);
    }

    private static void needRoot(int r) {
        if (r < 0 || r >= ROOTS) {
            throw new IllegalArgumentException("no such root");
        }
    }

    private int held(int r) {
        needRoot(r);
        int object = memory.kept(r);
        if (object == Memory.NONE) {
            throw new IllegalArgumentException("the root holds nothing");
        }
        return object;
    }

    private int heldOrNone(int r) {
        return r == NO_ROOT ? Memory.NONE : held(r);
    }

    private int heldWithKey(int r, long key) {
        int object = held(r);
        if (key < LOWEST_KEY || key > HIGHEST_KEY) {
            throw new IllegalArgumentException("no such key");
        }
        return object;
    }

    private int heldWithLock(int r, int how) {
        int object = held(r);
        if (how < 0 || how > DEEPEST_LOCK) {
            throw new IllegalArgumentException("no such lock");
        }
        return object;
    }

    /** The attributes that no own property has any more behind a lock. */
    private static int lockedAttributes(int how) {
        if (how == 0) {
            return 0;
        }
        return how == 1 ? CONFIGURABLE : CONFIGURABLE | WRITABLE;
    }

    private void giveValue(int property) {
        resultKind = objects.kindOf(property);
        resultNumber = objects.numberOf(property);
        memory.keep(RESULT, objects.objectOf(property));
    }

    private void giveObject(int object) {
        resultKind = object == Memory.NONE ? UNDEFINED : OBJECT;
        resultNumber = 0L;
        memory.keep(RESULT, object);
    }

    /** What a definition tells; one is made for a store and told anew for each call. */
    static final class Description {
        private int told;
        private int flags;
        private int kind;
        private long number;
        private int object;
        private int getter;
        private int setter;

        void tell(int newTold, int newFlags) {
            told = newTold;
            flags = newFlags & newTold & ATTRIBUTES;
        }

        void tellValue(int newKind, long newNumber, int newObject) {
            kind = newKind;
            number = newNumber;
            object = newObject;
        }

        void tellAccessor(int newGetter, int newSetter) {
            getter = newGetter;
            setter = newSetter;
        }

        boolean tells(int some) {
            return (told & some) != 0;
        }

        boolean tellsTrue(int one) {
            return (flags & one) != 0;
        }

        boolean tellsFalse(int one) {
            return tells(one) && !tellsTrue(one);
        }
    }

    /** The 64 bits of doubles, taken apart by hand as no double is ever made of them. */
    static final class Numbers {
        static final long NO_LENGTH = -1L;
        private static final long NAN = 0x7FF8000000000000L;
        private static final long INFINITY = 0x7FF0000000000000L;
        private static final long MINUS_ZERO = 0x8000000000000000L;
        private static final long FRACTION = 0x000FFFFFFFFFFFFFL;
        private static final int FRACTION_BITS = 52;
        private static final int EXPONENT_OF_ONE = 1023;
        private static final int LENGTH_BITS = 32;

        private Numbers() {
        }

        static long withOneNaN(long bits) {
            boolean none = (bits & INFINITY) == INFINITY && (bits & FRACTION) != 0;
            return none ? NAN : bits;
        }

        /** The length that a value stands for, or NO_LENGTH. */
        static long asLength(int kind, long bits) {
            if (kind == NULL || kind == FALSE) {
                return 0L;
            }
            if (kind == TRUE) {
                return 1L;
            }
            return kind == NUMBER ? wholeLength(bits) : NO_LENGTH;
        }

        private static long wholeLength(long bits) {
            if (bits == 0L || bits == MINUS_ZERO) {
                return 0L;
            }
            // The sign counts as part of the exponent here, so that what is below 0 is far too high.
            int power = (int) (bits >>> FRACTION_BITS) - EXPONENT_OF_ONE;
            if (power < 0 || power >= LENGTH_BITS) {
                return NO_LENGTH;
            }
            long digits = (bits & FRACTION) | (FRACTION + 1);
            int behindPoint = FRACTION_BITS - power;
            long whole = digits >>> behindPoint;
            return whole << behindPoint == digits ? whole : NO_LENGTH;
        }

        static long ofLength(long length) {
            if (length <= 0L) {
                return 0L;
            }
            int power = 63 - Long.numberOfLeadingZeros(length);
            long exponent = (long) (EXPONENT_OF_ONE + power) << FRACTION_BITS;
            return exponent | (length << (FRACTION_BITS - power)) & FRACTION;
        }
    }

    /**
     * Objects and properties as blocks of the memory.
     *
     * <p>An object's properties are one chain in the order of its keys. A getter stands where a data
     * property has its value (none is undefined), so that both are read in one way. What is asked of
     * no property answers undefined, none and 0, as the memory does for no block.
     */
    static final class ObjectSpace {
        private static final int PROTOTYPE_LINK = Memory.FIRST_LINK;
        private static final int CHAIN_LINK = Memory.FIRST_LINK + 1;
        private static final int LENGTH_LINK = Memory.FIRST_LINK + 2;
        private static final int EXTENSIBLE_WORD = Memory.FIRST_WORD;

        private static final int NEXT_LINK = Memory.FIRST_LINK;
        private static final int VALUE_LINK = Memory.FIRST_LINK + 1;
        private static final int SETTER_LINK = Memory.FIRST_LINK + 2;
        private static final int KEY_WORD = Memory.FIRST_WORD;
        private static final int ATTRIBUTES_WORD = Memory.FIRST_WORD + 1;
        private static final int KIND_WORD = Memory.FIRST_WORD + 2;
        private static final int NUMBER_WORD = Memory.FIRST_WORD + 3;

        private final Memory memory;

        ObjectSpace() {
            memory = new Memory();
        }

        /** A new object or array, or NONE when there is no room. */
        int makeObject(int prototype, boolean array) {
            int object = memory.make();
            memory.setWord(object, PROTOTYPE_LINK, prototype);
            memory.setWord(object, EXTENSIBLE_WORD, 1L);
            if (!array || object == Memory.NONE) {
                return object;
            }
            // No root holds the array yet, and its length's block may be made behind a collection.
            memory.keep(FRESH, object);
            int length = memory.make();
            memory.keep(FRESH, Memory.NONE);
            if (length == Memory.NONE) {
                return Memory.NONE;
            }
            memory.setWord(length, KEY_WORD, LENGTH);
            memory.setWord(length, ATTRIBUTES_WORD, WRITABLE);
            writeLength(length, 0L);
            memory.setWord(object, CHAIN_LINK, length);
            memory.setWord(object, LENGTH_LINK, length);
            return object;
        }

        int prototypeOf(int object) {
            return (int) memory.word(object, PROTOTYPE_LINK);
        }

        boolean isExtensible(int object) {
            return memory.word(object, EXTENSIBLE_WORD) != 0L;
        }

        private int first(int object) {
            return (int) memory.word(object, CHAIN_LINK);
        }

        private int next(int property) {
            return (int) memory.word(property, NEXT_LINK);
        }

        long keyOf(int property) {
            return memory.word(property, KEY_WORD);
        }

        int attributesOf(int property) {
            return (int) memory.word(property, ATTRIBUTES_WORD);
        }

        boolean isAny(int property, int attributes) {
            return (memory.word(property, ATTRIBUTES_WORD) & attributes) != 0L;
        }

        boolean isAccessor(int property) {
            return (memory.word(property, ATTRIBUTES_WORD) & ACCESSOR) != 0L;
        }

        int kindOf(int property) {
            return (int) memory.word(property, KIND_WORD);
        }

        long numberOf(int property) {
            return memory.word(property, NUMBER_WORD);
        }

        int objectOf(int property) {
            return (int) memory.word(property, VALUE_LINK);
        }

        int setterOf(int property) {
            return (int) memory.word(property, SETTER_LINK);
        }

        int findOwn(int object, long key) {
            int property = first(object);
            for (int n = 0; n < Memory.MOST_BLOCKS && property != Memory.NONE; n++) {
                if (keyOf(property) == key) {
                    return property;
                }
                property = next(property);
            }
            return Memory.NONE;
        }

        int find(int object, long key) {
            int holder = object;
            for (int n = 0; n < Memory.MOST_BLOCKS && holder != Memory.NONE; n++) {
                int property = findOwn(holder, key);
                if (property != Memory.NONE) {
                    return property;
                }
                holder = prototypeOf(holder);
            }
            return Memory.NONE;
        }

        int count(int object) {
            int count = 0;
            int property = first(object);
            for (int n = 0; n < Memory.MOST_BLOCKS && property != Memory.NONE; n++) {
                count++;
                property = next(property);
            }
            return count;
        }

        /** The property that is the k-th in the order of keys, or NONE. */
        int nth(int object, int k) {
            if (k < 0 || k >= Memory.MOST_BLOCKS) {
                return Memory.NONE;
            }
            int property = first(object);
            for (int n = 0; n < k && property != Memory.NONE; n++) {
                property = next(property);
            }
            return property;
        }

        void close(int object, int attributes) {
            memory.setWord(object, EXTENSIBLE_WORD, 0L);
            int property = first(object);
            for (int n = 0; n < Memory.MOST_BLOCKS && property != Memory.NONE; n++) {
                memory.setWord(property, ATTRIBUTES_WORD, attributesOf(property) & ~attributes);
                property = next(property);
            }
        }

        boolean isClosed(int object, int attributes) {
            boolean closed = !isExtensible(object);
            int property = first(object);
            for (int n = 0; n < Memory.MOST_BLOCKS && property != Memory.NONE; n++) {
                closed = closed && !isAny(property, attributes);
                property = next(property);
            }
            return closed;
        }

        /** Deletes a key: whether it is not refused. */
        boolean remove(int object, long key) {
            int before = Memory.NONE;
            int property = first(object);
            for (int n = 0; n < Memory.MOST_BLOCKS && property != Memory.NONE; n++) {
                if (keyOf(property) == key) {
                    break;
                }
                before = property;
                property = next(property);
            }
            if (isAny(property, CONFIGURABLE)) {
                linkBehind(object, before, next(property));
                return true;
            }
            return property == Memory.NONE;
        }

        private void linkBehind(int object, int before, int property) {
            if (before == Memory.NONE) {
                memory.setWord(object, CHAIN_LINK, property);
            } else {
                memory.setWord(before, NEXT_LINK, property);
            }
        }

        /** Defines by a description, which may be changed by it: DONE, REFUSED or BAD. */
        int defineProperty(int object, long key, Description told) {
            int length = (int) memory.word(object, LENGTH_LINK);
            if (length == Memory.NONE) {
                return definePlainly(object, key, told);
            }
            if (key == LENGTH && told.tells(VALUE)) {
                return defineLength(object, length, told);
            }
            if (key < readLength(length)) {
                return definePlainly(object, key, told);
            }
            if (!isAny(length, WRITABLE)) {
                return REFUSED;
            }
            int answer = definePlainly(object, key, told);
            if (answer == DONE) {
                writeLength(length, key + 1);
            }
            return answer;
        }

        private int definePlainly(int object, long key, Description told) {
            int property = findOwn(object, key);
            if (property != Memory.NONE) {
                return change(property, told);
            }
            return isExtensible(object) ? add(object, key, told) : REFUSED;
        }

        private int add(int object, long key, Description told) {
            int property = memory.make();
            if (property == Memory.NONE) {
                // Only a store that has had more than its 512 calls comes here.
                return REFUSED;
            }
            memory.setWord(property, KEY_WORD, key);
            become(property, told);
            int before = Memory.NONE;
            int after = first(object);
            for (int n = 0; n < Memory.MOST_BLOCKS && after != Memory.NONE; n++) {
                if (!staysAhead(keyOf(after), key)) {
                    break;
                }
                before = after;
                after = next(after);
            }
            memory.setWord(property, NEXT_LINK, after);
            linkBehind(object, before, property);
            return DONE;
        }

        private static boolean staysAhead(long there, long added) {
            return added < 0L || there >= 0L && there < added;
        }

        private int change(int property, Description told) {
            if (!isAny(property, CONFIGURABLE) && isFixed(property, told)) {
                return REFUSED;
            }
            become(property, told);
            return DONE;
        }

        /** Whether a property that is not configurable refuses what is told. */
        private boolean isFixed(int property, Description told) {
            if (told.tellsTrue(CONFIGURABLE)) {
                return true;
            }
            if (told.tells(ENUMERABLE) && told.tellsTrue(ENUMERABLE) != isAny(property, ENUMERABLE)) {
                return true;
            }
            if (isAccessor(property)) {
                return told.tells(VALUE | WRITABLE)
                        || told.tells(GETTER) && told.getter != objectOf(property)
                        || told.tells(SETTER) && told.setter != setterOf(property);
            }
            if (told.tells(GETTER | SETTER)) {
                return true;
            }
            return !isAny(property, WRITABLE)
                    && (told.tellsTrue(WRITABLE) || told.tells(VALUE) && !isValue(property, told));
        }

        private boolean isValue(int property, Description told) {
            return kindOf(property) == told.kind
                    && numberOf(property) == told.number
                    && objectOf(property) == told.object;
        }

        private void become(int property, Description told) {
            if (told.tells(isAccessor(property) ? VALUE | WRITABLE : GETTER | SETTER)) {
                turnOver(property);
            }
            int kept = attributesOf(property) & ~(told.told & ATTRIBUTES);
            memory.setWord(property, ATTRIBUTES_WORD, kept | told.flags);
            if (told.tells(VALUE)) {
                writeValue(property, told.kind, told.number, told.object);
            }
            if (told.tells(GETTER)) {
                writeValue(property, told.getter == Memory.NONE ? UNDEFINED : OBJECT, 0L, told.getter);
            }
            if (told.tells(SETTER)) {
                memory.setWord(property, SETTER_LINK, told.setter);
            }
        }

        /** Makes an accessor of a data property, or the other way, with nothing told yet. */
        private void turnOver(int property) {
            int kept = attributesOf(property) & (ENUMERABLE | CONFIGURABLE);
            int turned = isAccessor(property) ? kept : kept | ACCESSOR;
            memory.setWord(property, ATTRIBUTES_WORD, turned);
            memory.setWord(property, SETTER_LINK, Memory.NONE);
            writeValue(property, UNDEFINED, 0L, Memory.NONE);
        }

        private void writeValue(int property, int kind, long number, int object) {
            memory.setWord(property, KIND_WORD, kind);
            memory.setWord(property, NUMBER_WORD, number);
            memory.setWord(property, VALUE_LINK, object);
        }

        private long readLength(int length) {
            return Numbers.asLength(kindOf(length), numberOf(length));
        }

        private void writeLength(int length, long number) {
            writeValue(length, NUMBER, Numbers.ofLength(number), Memory.NONE);
        }

        private int defineLength(int object, int length, Description told) {
            long asked = Numbers.asLength(told.kind, told.number);
            if (asked == Numbers.NO_LENGTH) {
                return BAD;
            }
            told.tellValue(NUMBER, Numbers.ofLength(asked), Memory.NONE);
            if (asked >= readLength(length)) {
                return change(length, told);
            }
            if (!isAny(length, WRITABLE)) {
                return REFUSED;
            }
            boolean closes = told.tellsFalse(WRITABLE);
            if (closes) {
                told.flags |= WRITABLE;
            }
            if (change(length, told) == REFUSED) {
                return REFUSED;
            }
            long left = cut(object, asked);
            writeLength(length, left);
            if (closes) {
                memory.setWord(length, ATTRIBUTES_WORD, attributesOf(length) & ~WRITABLE);
            }
            return left == asked ? DONE : REFUSED;
        }

        /**
         * Deletes own indices from the highest one down to asked, up to the first that is not
         * configurable: the length that is left.
         */
        private long cut(int object, long asked) {
            long left = asked;
            int property = first(object);
            int lastKept = Memory.NONE;
            for (int n = 0; n < Memory.MOST_BLOCKS && property != Memory.NONE; n++) {
                long key = keyOf(property);
                if (key < 0L) {
                    break;
                }
                if (key < asked || !isAny(property, CONFIGURABLE)) {
                    left = Math.max(asked, key + 1);
                    lastKept = property;
                }
                property = next(property);
            }
            // The chain rises, so that all between the last one kept and the first name goes at once.
            linkBehind(object, lastKept, property);
            return left;
        }
    }

    /**
     * Blocks of one size in one row, and the slots that keep some of them; what no slot leads to is
     * collected. A block is a number from 1; a word of a block that is not there is 0, and setting it
     * does nothing.
     */
    static final class Memory {
        static final int NONE = 0;
        /** Each of a store's 512 calls makes two blocks at most: an array and its length. */
        static final int MOST_BLOCKS = 1024;
        static final int FIRST_LINK = 1;
        static final int FIRST_WORD = 4;

        private static final int MARK = 0;
        private static final int BLOCK_SIZE = 8;
        private static final int BLOCKS_AT_FIRST = 64;
        private static final int LAST_MARKED = -1;

        private final int[] slots;
        private long[] words;
        private int blocks;
        private int firstFree;
        private int freeBlocks;
        private int stressed;
        private int madeSince;

        Memory() {
            slots = new int[SLOTS];
            words = new long[BLOCKS_AT_FIRST * BLOCK_SIZE];
            blocks = BLOCKS_AT_FIRST;
            for (int block = blocks; block > 0; block--) {
                release(block);
            }
        }

        int kept(int slot) {
            return slot >= 0 && slot < slots.length ? slots[slot] : NONE;
        }

        void keep(int slot, int block) {
            if (slot >= 0 && slot < slots.length) {
                slots[slot] = block;
            }
        }

        long word(int block, int field) {
            int at = (block - 1) * BLOCK_SIZE + field;
            return at >= 0 && at < words.length ? words[at] : 0L;
        }

        void setWord(int block, int field, long word) {
            int at = (block - 1) * BLOCK_SIZE + field;
            if (at >= 0 && at < words.length) {
                words[at] = word;
            }
        }

        void collectBeforeEach(int nth) {
            stressed = nth;
            madeSince = 0;
        }

        /** A new block, all of it 0, or NONE when there is no room. */
        int make() {
            if (isCollectionDue() || firstFree == NONE) {
                markAll();
                sweep();
                widenIfTight();
            }
            int block = firstFree;
            if (block == NONE) {
                return NONE;
            }
            firstFree = (int) word(block, FIRST_LINK);
            freeBlocks--;
            for (int field = 0; field < BLOCK_SIZE; field++) {
                setWord(block, field, 0L);
            }
            return block;
        }

        private boolean isCollectionDue() {
            if (stressed == 0) {
                return false;
            }
            madeSince++;
            if (madeSince < stressed) {
                return false;
            }
            madeSince = 0;
            return true;
        }

        private void markAll() {
            int marked = LAST_MARKED;
            for (int slot = 0; slot < slots.length; slot++) {
                marked = mark(slots[slot], marked);
            }
            for (int n = 0; n < blocks && marked != LAST_MARKED; n++) {
                int block = marked;
                marked = (int) word(block, MARK);
                for (int field = FIRST_LINK; field < FIRST_WORD; field++) {
                    marked = mark((int) word(block, field), marked);
                }
            }
        }

        /**
         * Puts a block ahead of those that are marked and not looked into yet. Its mark is the next of
         * them, so that marking needs neither a row of its own nor recursion.
         */
        private int mark(int block, int marked) {
            if (block == NONE || word(block, MARK) != 0L) {
                return marked;
            }
            setWord(block, MARK, marked);
            return block;
        }

        private void sweep() {
            firstFree = NONE;
            freeBlocks = 0;
            for (int block = blocks; block > 0; block--) {
                if (word(block, MARK) == 0L) {
                    release(block);
                } else {
                    setWord(block, MARK, 0L);
                }
            }
        }

        private void release(int block) {
            setWord(block, FIRST_LINK, firstFree);
            firstFree = block;
            freeBlocks++;
        }

        /** A memory that stays nearly full would be collected for nearly each block. */
        private void widenIfTight() {
            if (freeBlocks > blocks / 4 || blocks >= MOST_BLOCKS) {
                return;
            }
            int before = blocks;
            blocks = Math.min(2 * before, MOST_BLOCKS);
            words = Arrays.copyOf(words, blocks * BLOCK_SIZE);
            for (int block = blocks; block > before; block--) {
                release(block);
            }
        }
    }
}
