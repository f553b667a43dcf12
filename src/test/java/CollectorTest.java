/**
 * The class's own memory, which no answer shows: when it collects, what it keeps, and what a store does
 * that is full, which needs more than 512 calls. These are this class's ways, not the document's promises.
 */
public final class CollectorTest extends Scene {
    private static final Check CHECK = new Check("CollectorTest");
    private static final int LINKS = Inside.WORD - Inside.LINK;

    public static void main(String[] args) throws ReflectiveOperationException {
        if (!Inside.isThere()) {
            System.out.println("CollectorTest: this class has another memory, which is not looked into");
            return;
        }
        collectsBeforeEachNth();
        keepsWhatIsReached();
        collectsWhenFull();
        hasABlockForEachCall();
        stressReachesTheMemory();
        goesOnBehindItsCalls();
        CHECK.end();
    }

    /** Nothing is kept: blocks are made in order, and from the first one again behind a collection. */
    private static void dueBlocks(String call, Inside memory, int... due) throws ReflectiveOperationException {
        for (int n = 0; n < due.length; n++) {
            CHECK.due(call + ": block made as number " + (n + 1), memory.make(), due[n]);
        }
    }

    private static void collectsBeforeEachNth() throws ReflectiveOperationException {
        CHECK.sentence("Promise 21", "Collects before each n-th block that is made from now on");
        Inside memory = Inside.fresh();
        dueBlocks("no stress", memory, 1, 2, 3, 4, 5);
        memory.collectBeforeEach(1);
        dueBlocks("each", memory, 1, 1, 1);
        memory.collectBeforeEach(3);
        dueBlocks("each third", memory, 2, 3, 1, 2, 3, 1);
        dueBlocks("each third, one more", memory, 2);
        memory.collectBeforeEach(3);
        dueBlocks("counted from the last call on", memory, 3, 4, 1);
        memory.collectBeforeEach(0);
        dueBlocks("no stress again", memory, 2, 3, 4, 5, 6);
    }

    private static void keepsWhatIsReached() throws ReflectiveOperationException {
        CHECK.sentence("Terms", "An object is there as long as a root, the operand or the result leads to it");
        Inside memory = Inside.fresh();
        for (int slot = 0; slot < 3; slot++) {
            keepRing(memory, slot);
        }
        int made = 3 + 3 * LINKS;
        memory.collectBeforeEach(1);
        dueBlocks("rings that are kept", memory, made + 1, made + 1);
        for (int slot = 0; slot < 3; slot++) {
            for (int link = 0; link < LINKS; link++) {
                int reached = (int) memory.word(memory.kept(slot), Inside.LINK + link);
                CHECK.due("a word of a kept block", memory.word(reached, Inside.WORD), 1000 + reached);
            }
        }
        memory.keep(0, Inside.NONE);
        dueBlocks("a ring that is kept no more", memory, 1, 1);
        memory.collectBeforeEach(0);
        for (int field = 0; field < Inside.FIELDS; field++) {
            CHECK.due("a word of a new block", memory.word(memory.make(), field), 0);
        }
    }

    private static void keepRing(Inside memory, int slot) throws ReflectiveOperationException {
        int head = memory.make();
        memory.keep(slot, head);
        for (int link = 0; link < LINKS; link++) {
            int reached = memory.make();
            memory.setWord(head, Inside.LINK + link, reached);
            memory.setWord(reached, Inside.LINK, head);
            memory.setWord(reached, Inside.WORD, 1000 + reached);
        }
    }

    private static void collectsWhenFull() throws ReflectiveOperationException {
        CHECK.sentence("Terms", "All memory is the class's own, and is collected whenever it likes");
        Inside memory = Inside.fresh();
        int highest = 0;
        for (int n = 0; n < 10000; n++) {
            highest = Math.max(highest, memory.make());
        }
        CHECK.due("10000 blocks fit where 64 do", highest, Inside.FIRST_BLOCKS);
    }

    private static void hasABlockForEachCall() throws ReflectiveOperationException {
        CHECK.sentence("Terms", "There is always room.");
        Inside memory = Inside.fresh();
        int last = Inside.NONE;
        for (int n = 0; n < Inside.MOST_BLOCKS; n++) {
            int block = memory.make();
            CHECK.due("block " + n + " is there", block != Inside.NONE, true);
            memory.setWord(block, Inside.LINK, last);
            memory.keep(0, block);
            last = block;
        }
        CHECK.due("a block beyond the most", memory.make(), Inside.NONE);
        memory.keep(0, Inside.NONE);
        CHECK.due("a block behind that", memory.make() != Inside.NONE, true);
        CHECK.due("a slot that is not there", memory.kept(-1) + memory.kept(Inside.SLOTS), 0);
        memory.keep(-1, 1);
        memory.keep(Inside.SLOTS, 1);
        memory.setWord(Inside.MOST_BLOCKS + 1, 0, 1);
        CHECK.due("a word that is not there", memory.word(Inside.MOST_BLOCKS + 1, 0) + memory.word(0, 7), 0);
    }

    private static void stressReachesTheMemory() throws ReflectiveOperationException {
        CHECK.sentence("Promise 21", "Collects before each n-th block that is made from now on (0: when it likes).");
        PropertyStore x = new PropertyStore();
        Inside memory = Inside.of(x);
        x.object(0, -1, true);
        x.stress(2);
        dueBlocks("stress(2)", memory, 3, 3, 4, 3, 4, 3);
        x.stress(0);
        dueBlocks("stress(0)", memory, 4, 5, 6, 7, 8);
        x.stress(3);
        CHECK.due("stress(-1) throws", Check.thrown(() -> x.stress(-1)), "IllegalArgumentException");
        dueBlocks("stress(3) behind stress(-1)", memory, 9, 10, 3, 4, 5, 3);
        x.stress(1);
        x.delete(0, 5);
        for (int n = 0; n < 100; n++) {
            x.put(0, 5);
            x.delete(0, 5);
        }
        dueBlocks("deleted properties are collected", memory, 3);
        for (int n = 0; n < 100; n++) {
            x.object(0, 0, true);
        }
        x.copy(0, -1);
        dueBlocks("what no root leads to is collected", memory, 1);
    }

    /** Answers are free there, but nothing than the face's exceptions may come. */
    private static void goesOnBehindItsCalls() {
        CHECK.sentence("What it is", "what later calls answer is free.");
        PropertyStore x = new PropertyStore();
        x.object(0, -1, true);
        for (int n = 0; n < 3000; n++) {
            int key = n;
            String thrown = Check.thrown(() -> x.object(0, 0, key % 2 == 0));
            CHECK.due("object throws " + thrown, thrown.equals("nothing") || thrown.equals("IllegalArgumentException"), true);
            CHECK.due("put throws", Check.thrown(() -> x.put(0, key)), "nothing");
            CHECK.due("get throws", Check.thrown(() -> x.get(0, -3)), "nothing");
        }
        CHECK.due("a full store's put is refused", x.put(0, 4000), 2);
        CHECK.due("a full store's define is refused", x.define(0, 4000, 0, 0, -1, -1), 2);
        CHECK.due("a full store's object throws", Check.thrown(() -> x.object(1, -1, true)), "IllegalArgumentException");
        CHECK.due("root 1 holds nothing", x.same(1, 2), true);
        x.copy(0, -1);
        CHECK.due("an emptied store's object throws", Check.thrown(() -> x.object(1, -1, true)), "nothing");
    }
}
