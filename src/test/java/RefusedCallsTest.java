import java.util.function.Consumer;

/** Terms: the calls that throw, which exception comes first, and that they change nothing. */
final class RefusedCallsTest {
    private static final String STATE = "IllegalStateException";
    private static final String BOUNDS = "IndexOutOfBoundsException";
    private static final String ARGUMENT = "IllegalArgumentException";
    private static final int LEAST = Integer.MIN_VALUE;
    private static final int GREATEST = Integer.MAX_VALUE;

    /** The store before the refused call; all of them have 2 blocks in file 0, 12 in file 2, none in file 4. */
    private enum Before { THREE_WORDS, FOUR_WORDS, DOWN }

    private final Checks checks = new Checks();

    public static void main(String[] args) {
        RefusedCallsTest test = new RefusedCallsTest();
        test.noSuchFile();
        test.noSuchBlockOrWord();
        test.firstExceptionWins();
        test.stageTooShort();
        test.stageOrFileTooFull();
        test.powerToldOutOfRange();
        test.downThrowsFirstOfAll();
        test.downLetsTheOthers();
        test.checks.end();
    }

    /** "IndexOutOfBounds: there is no such file", and there are files from 0 to 5. */
    private void noSuchFile() {
        for (int file : new int[] {-1, 6, LEAST, GREATEST}) {
            refused(Before.FOUR_WORDS, BOUNDS, "append(" + file + ")", store -> store.append(file));
            refused(Before.FOUR_WORDS, BOUNDS, "cut(" + file + ", 0)", store -> store.cut(file, 0));
            refused(Before.FOUR_WORDS, BOUNDS, "copy(" + file + ", 0)", store -> store.copy(file, 0));
            refused(Before.FOUR_WORDS, BOUNDS, "copy(0, " + file + ")", store -> store.copy(0, file));
            refused(Before.FOUR_WORDS, BOUNDS, "copy of none to none", store -> store.copy(file, file));
            refused(Before.FOUR_WORDS, BOUNDS, "blocks(" + file + ")", store -> store.blocks(file));
            refused(Before.FOUR_WORDS, BOUNDS, "block(" + file + ", 0)", store -> store.block(file, 0));
            refused(Before.FOUR_WORDS, BOUNDS, "word(" + file + ", 0, 0)", store -> store.word(file, 0, 0));
        }
    }

    /** "or block or word of it." For cut, a block is also too much "above how many the file has". */
    private void noSuchBlockOrWord() {
        for (int b : new int[] {-1, 2, 12, LEAST, GREATEST}) {
            refused(Before.FOUR_WORDS, BOUNDS, "block(0, " + b + ")", store -> store.block(0, b));
            refused(Before.FOUR_WORDS, BOUNDS, "word(0, " + b + ", 0)", store -> store.word(0, b, 0));
        }
        refused(Before.FOUR_WORDS, BOUNDS, "block of an empty file", store -> store.block(4, 0));
        refused(Before.FOUR_WORDS, BOUNDS, "word of an empty file", store -> store.word(4, 0, 0));
        refused(Before.FOUR_WORDS, BOUNDS, "block 12 of a full file", store -> store.block(2, 12));
        refused(Before.FOUR_WORDS, BOUNDS, "word of block 12 of a full file", store -> store.word(2, 12, 0));
        for (int i : new int[] {-1, 4, LEAST, GREATEST}) {
            refused(Before.FOUR_WORDS, BOUNDS, "word(0, 1, " + i + ")", store -> store.word(0, 1, i));
        }
        for (int from : new int[] {-1, 3, 12, LEAST, GREATEST}) {
            refused(Before.FOUR_WORDS, BOUNDS, "cut(0, " + from + ")", store -> store.cut(0, from));
        }
        refused(Before.FOUR_WORDS, BOUNDS, "cut of an empty file from 1", store -> store.cut(4, 1));
        refused(Before.FOUR_WORDS, BOUNDS, "cut of a full file from 13", store -> store.cut(2, 13));
    }

    /** "A call that throws changes nothing; where it lists more than one exception, the first one wins." */
    private void firstExceptionWins() {
        refused(Before.THREE_WORDS, BOUNDS, "no file for a short stage", store -> store.append(6));
        refused(Before.DOWN, STATE, "down, and no file", store -> store.append(6));
        refused(Before.DOWN, STATE, "down, and no file to cut", store -> store.cut(-1, 0));
        refused(Before.DOWN, STATE, "down, and nothing to cut", store -> store.cut(0, 13));
        refused(Before.DOWN, STATE, "down, and no file to copy", store -> store.copy(0, 6));
        refused(Before.DOWN, STATE, "down, and no file to copy to", store -> store.copy(-1, 0));
        refused(Before.DOWN, STATE, "down, and no file to count", store -> store.blocks(6));
        refused(Before.DOWN, STATE, "down, and no block", store -> store.block(0, 12));
        refused(Before.DOWN, STATE, "down, and no word", store -> store.word(0, 0, 4));
    }

    /** "IllegalState: the stage has less than four words", and "IllegalState: DOWN, or it has less than four words." */
    private void stageTooShort() {
        refused(Before.THREE_WORDS, STATE, "append of three words", store -> store.append(0));
        refused(Before.THREE_WORDS, STATE, "append of three words to a full file", store -> store.append(2));
        refused(Before.THREE_WORDS, STATE, "find of three words", SharedBlockStore::find);
        refused(Before.THREE_WORDS, STATE, "passes of three words", SharedBlockStore::passes);
    }

    /** "or the file has 12 blocks.", and "IllegalState: DOWN, or it has four." */
    private void stageOrFileTooFull() {
        refused(Before.FOUR_WORDS, STATE, "append to a full file", store -> store.append(2));
        refused(Before.FOUR_WORDS, STATE, "a fifth word", store -> store.feed(5));
    }

    /** "IllegalArgument: n is not NONE .. 1000." */
    private void powerToldOutOfRange() {
        for (int n : new int[] {-2, 1001, LEAST, GREATEST}) {
            refused(Before.THREE_WORDS, ARGUMENT, "crashAfter(" + n + ")", store -> store.crashAfter(n));
            refused(Before.DOWN, ARGUMENT, "crashAfter(" + n + ") when down", store -> store.crashAfter(n));
        }
    }

    /**
     * "All methods but down, crashAfter, recover and what counts (probes, writes) throw IllegalState first of
     * all when the store is DOWN."
     */
    private void downThrowsFirstOfAll() {
        refused(Before.DOWN, STATE, "feed when down", store -> store.feed(1));
        refused(Before.DOWN, STATE, "drop when down", SharedBlockStore::drop);
        refused(Before.DOWN, STATE, "append when down", store -> store.append(0));
        refused(Before.DOWN, STATE, "cut when down", store -> store.cut(0, 0));
        refused(Before.DOWN, STATE, "copy when down", store -> store.copy(0, 2));
        refused(Before.DOWN, STATE, "copy onto itself when down", store -> store.copy(0, 0));
        refused(Before.DOWN, STATE, "blocks when down", store -> store.blocks(0));
        refused(Before.DOWN, STATE, "block when down", store -> store.block(0, 0));
        refused(Before.DOWN, STATE, "word when down", store -> store.word(0, 0, 0));
        refused(Before.DOWN, STATE, "find when down", SharedBlockStore::find);
        refused(Before.DOWN, STATE, "passes when down", SharedBlockStore::passes);
        refused(Before.DOWN, STATE, "refresh when down", SharedBlockStore::refresh);
        refused(Before.DOWN, STATE, "save when down", SharedBlockStore::save);
        for (int c : new int[] {-1, 0, 63, 64}) {
            refused(Before.DOWN, STATE, "cell(" + c + ") when down", store -> store.cell(c));
        }
        for (int what = -1; what <= 4; what++) {
            int asked = what;
            refused(Before.DOWN, STATE, "count(" + asked + ") when down", store -> store.count(asked));
        }
    }

    /** "All methods but down, crashAfter, recover and what counts (probes, writes)", which answer then too. */
    private void downLetsTheOthers() {
        SharedBlockStore store = store(Before.DOWN);
        checks.due("down when down", true, store.down());
        store.crashAfter(SharedBlockStore.NONE);
        checks.due("down after crashAfter", true, store.down());
        // Twelve times 1, 2, 3, 188 and once 1, 2, 3, 444 are looked up in five cells each.
        checks.due("probes when down", 13 * 5, store.probes());
        checks.due("writes when down", 5 + 7 + 1 + 3, store.writes());
        checks.due("recover when down", 1, store.recover());
        checks.due("down after it", false, store.down());
    }

    /** The call throws, and the store then is as one that was made in the same way without the call. */
    private void refused(Before before, String exception, String name, Consumer<SharedBlockStore> call) {
        SharedBlockStore store = store(before);
        checks.thrown(name, exception, () -> call.accept(store));
        Picture.dueAlike(checks, name + " changes nothing", store(before), store);
    }

    /**
     * A store with something everywhere, so that a change anywhere can be seen: a block that is only saved, a
     * gate with bits of what is gone, and an index that would be another one if it were made anew.
     */
    private static SharedBlockStore store(Before before) {
        SharedBlockStore store = new SharedBlockStore();
        Stores.append(store, 3, 252);
        Stores.fill(store, 0, 60, 2);
        Stores.append(store, 1, 124);
        for (int i = 0; i < 12; i++) {
            Stores.append(store, 2, 188);
        }
        store.cut(3, 0);
        store.save();
        store.cut(1, 0);
        Stores.append(store, 3, 444);
        store.crashAfter(before == Before.DOWN ? 3 : 5);
        Stores.feedThree(store);
        if (before != Before.THREE_WORDS) {
            store.feed(4);
        }
        if (before == Before.DOWN) {
            store.save();
        }
        return store;
    }
}
