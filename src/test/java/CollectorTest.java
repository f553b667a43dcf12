import java.lang.reflect.Field;

/**
 * The class's own memory, which no answer shows: when it collects, what it keeps, and what a store does
 * that is full, which needs more than 512 calls. These are this class's ways, not the document's promises.
 */
public final class CollectorTest extends Scene {
    private static final Check CHECK = new Check("CollectorTest");
    private static final int LINK = PropertyStore.Memory.FIRST_LINK;
    private static final int LINKS = PropertyStore.Memory.FIRST_WORD - LINK;
    private static final int MOST = PropertyStore.Memory.MOST_BLOCKS;

    public static void main(String[] args) throws ReflectiveOperationException {
        collectsBeforeEachNth();
        keepsWhatIsReached();
        collectsWhenFull();
        stressReachesTheMemory();
        goesOnBehindItsCalls();
        CHECK.end();
    }

    /** Nothing is kept: blocks are made in order, and from the first one again behind a collection. */
    private static void dueBlocks(String call, PropertyStore.Memory memory, int... due) {
        for (int n = 0; n < due.length; n++) {
            CHECK.due(call + ": block made as number " + (n + 1), memory.make(), due[n]);
        }
    }

    private static void collectsBeforeEachNth() {
        CHECK.sentence("Promise 21", "Collects before each n-th block that is made from now on");
        PropertyStore.Memory memory = new PropertyStore.Memory();
        dueBlocks("no stress", memory, 1, 2, 3, 4, 5);
        memory.collectBeforeEach(1);
        dueBlocks("each", memory, 1, 1, 1);
        memory.collectBeforeEach(3);
        dueBlocks("each third", memory, 2, 3, 1, 2, 3, 1);
        dueBlocks("each third, one more", memory, 2);
        memory.collectBeforeEach(3);
        dueBlocks("counted from the last call on", memory, 3, 4, 1);
        memory.collectBeforeEach(0);
        dueBlocks("no stress again", memory, 2, 3, 4, 5, 6);
    }

    private static void keepsWhatIsReached() {
        CHECK.sentence("Terms", "An object is there as long as a root, the operand or the result leads to it");
        PropertyStore.Memory memory = new PropertyStore.Memory();
        for (int slot = 0; slot < 3; slot++) {
            int head = memory.make();
            memory.keep(slot, head);
            for (int link = 0; link < LINKS; link++) {
                int reached = memory.make();
                memory.setWord(head, LINK + link, reached);
                memory.setWord(reached, LINK, head);
                memory.setWord(reached, PropertyStore.Memory.FIRST_WORD, 1000 + reached);
            }
        }
        int made = 3 + 3 * LINKS;
        memory.collectBeforeEach(1);
        dueBlocks("rings that are kept", memory, made + 1, made + 1);
        for (int slot = 0; slot < 3; slot++) {
            for (int link = 0; link < LINKS; link++) {
                int reached = (int) memory.word(memory.kept(slot), LINK + link);
                CHECK.due("a word of a kept block", memory.word(reached, PropertyStore.Memory.FIRST_WORD), 1000 + reached);
            }
        }
        memory.keep(0, PropertyStore.Memory.NONE);
        dueBlocks("a ring that is kept no more", memory, 1, 1);
        memory.collectBeforeEach(0);
        for (int field = 0; field < 8; field++) {
            int used = memory.make();
            CHECK.due("a word of a new block", memory.word(used, field), 0);
        }
    }

    private static void collectsWhenFull() {
        CHECK.sentence("Terms", "All memory is the class's own, and is collected whenever it likes");
        PropertyStore.Memory memory = new PropertyStore.Memory();
        int highest = 0;
        for (int n = 0; n < 10000; n++) {
            highest = Math.max(highest, memory.make());
        }
        CHECK.due("10000 blocks fit where 64 do", highest, 64);
        int last = PropertyStore.Memory.NONE;
        for (int n = 0; n < MOST; n++) {
            int block = memory.make();
            CHECK.due("block " + n + " is there", block != PropertyStore.Memory.NONE, true);
            memory.setWord(block, LINK, last);
            memory.keep(0, block);
            last = block;
        }
        CHECK.due("a block beyond the most", memory.make(), PropertyStore.Memory.NONE);
        memory.keep(0, PropertyStore.Memory.NONE);
        CHECK.due("a block behind that", memory.make() != PropertyStore.Memory.NONE, true);
        CHECK.due("a slot that is not there", memory.kept(-1) + memory.kept(27), 0);
        memory.keep(-1, 1);
        memory.keep(27, 1);
        memory.setWord(MOST + 1, 0, 1);
        CHECK.due("a word that is not there", memory.word(MOST + 1, 0) + memory.word(0, 7), 0);
    }

    private static PropertyStore.Memory memoryOf(PropertyStore x) throws ReflectiveOperationException {
        Field field = PropertyStore.class.getDeclaredField("memory");
        field.setAccessible(true);
        return (PropertyStore.Memory) field.get(x);
    }

    private static void stressReachesTheMemory() throws ReflectiveOperationException {
        CHECK.sentence("Promise 21", "Collects before each n-th block that is made from now on (0: when it likes).");
        PropertyStore x = new PropertyStore();
        x.object(0, -1, true);
        x.stress(2);
        dueBlocks("stress(2)", memoryOf(x), 3, 3, 4, 3, 4, 3);
        x.stress(0);
        dueBlocks("stress(0)", memoryOf(x), 4, 5, 6, 7, 8);
        x.stress(3);
        CHECK.due("stress(-1) throws", Check.thrown(() -> x.stress(-1)), "IllegalArgumentException");
        dueBlocks("stress(3) behind stress(-1)", memoryOf(x), 9, 10, 3, 4, 5, 3);
        x.stress(1);
        x.delete(0, 5);
        for (int n = 0; n < 100; n++) {
            x.put(0, 5);
            x.delete(0, 5);
        }
        dueBlocks("deleted properties are collected", memoryOf(x), 3);
        for (int n = 0; n < 100; n++) {
            x.object(0, 0, true);
        }
        x.copy(0, -1);
        dueBlocks("what no root leads to is collected", memoryOf(x), 1);
    }

    /** Answers are free there, but nothing than the face's exceptions may come. */
    private static void goesOnBehindItsCalls() {
        CHECK.sentence("What it is", "what later calls answer is free");
        PropertyStore x = new PropertyStore();
        x.object(0, -1, true);
        for (int n = 0; n < 3000; n++) {
            int key = n;
            String thrown = Check.thrown(() -> x.object(0, 0, key % 2 == 0));
            CHECK.due("object throws " + thrown, thrown.equals("nothing") || thrown.equals("IllegalArgumentException"), true);
            CHECK.due("put throws", Check.thrown(() -> x.put(0, key)), "nothing");
            CHECK.due("get throws", Check.thrown(() -> x.get(0, -3)), "nothing");
        }
        CHECK.due("a full store's put is refused", x.put(0, 4000), 2);
        CHECK.due("a full store's define is refused", x.define(0, 4000, 0, 0, -1, -1), 2);
        CHECK.due("a full store's object throws", Check.thrown(() -> x.object(1, -1, true)), "IllegalArgumentException");
        CHECK.due("root 1 holds nothing", x.same(1, 2), true);
        x.copy(0, -1);
        CHECK.due("an emptied store's object throws", Check.thrown(() -> x.object(1, -1, true)), "nothing");
    }
}
