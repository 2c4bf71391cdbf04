/** Promise 4. */
final class AppendTest {
    public static void main(String[] args) {
        Checks checks = new Checks();
        emptiesTheStage(checks);
        sharesContents(checks);
        looksUpBehindTheGateOnly(checks);
        takesTheLeastFree(checks);
        keepsSavedBlocks(checks);
        answersNoneWhenFull(checks);
        needsNoFreeBlockForAKnownContent(checks);
        losesItsWrite(checks);
        refusesNoSuchFileFirst(checks);
        refusesAShortStage(checks);
        refusesAFullFile(checks);
        refusesWhenDown(checks);
        checks.end();
    }

    /** "The stage, which is empty then, becomes the content of a file's next block" */
    private static void emptiesTheStage(Checks checks) {
        SharedBlockStore store = new SharedBlockStore();
        Stores.append(store, 0, 10);
        checks.due("stage after a new content", 0, store.drop());
        Stores.append(store, 0, 10);
        checks.due("stage after a known content", 0, store.drop());
        Stores.append(store, 0, 11);
        checks.dueText("row", "0 0 1", Stores.row(store, 0));
        checks.due("last word of the first", 10, store.word(0, 0, 3));
        checks.due("last word of the last", 11, store.word(0, 2, 3));
    }

    /** "and if it is found, that is the block" */
    private static void sharesContents(Checks checks) {
        SharedBlockStore store = new SharedBlockStore();
        checks.due("first content", 0, Stores.append(store, 0, 10));
        checks.due("second content", 1, Stores.append(store, 0, 11));
        checks.due("first content again", 0, Stores.append(store, 0, 10));
        checks.due("first content elsewhere", 0, Stores.append(store, 5, 10));
        checks.due("writes", 2, store.writes());
        checks.due("used", 2, store.count(0));
        checks.dueText("row 0", "0 1 0", Stores.row(store, 0));
        checks.dueText("row 5", "0", Stores.row(store, 5));
        checks.due("words in another order", 2, Stores.append(store, 1, 10, 3, 2, 1));
    }

    /** "if its three bits are set in the gate, it is looked up", and otherwise not. */
    private static void looksUpBehindTheGateOnly(Checks checks) {
        SharedBlockStore store = new SharedBlockStore();
        Stores.append(store, 0, 60);
        // The bits of 1, 2, 3, 60 are 62, 31, 60; those of 1, 2, 3, 124 are 62, 15, 60.
        Stores.append(store, 0, 124);
        checks.due("probes when a bit is missing", 0, store.probes());
        Stores.append(store, 0, 124);
        checks.due("probes when it is found in the second cell", 2, store.probes());
        store.cut(0, 1);
        Stores.append(store, 1, 124);
        checks.due("probes when the gate still lets what is gone", 4, store.probes());
        checks.due("writes", 3, store.writes());
    }

    /** "otherwise the least free block gets it (a write), and is put in." */
    private static void takesTheLeastFree(Checks checks) {
        SharedBlockStore store = new SharedBlockStore();
        for (int file = 0; file < 4; file++) {
            Stores.append(store, file, file);
        }
        store.cut(2, 0);
        store.cut(1, 0);
        checks.due("least free", 1, Stores.append(store, 4, 60));
        checks.due("a write", 5, store.writes());
        checks.due("put in", 1, store.cell(62));
        checks.due("next free", 2, Stores.append(store, 4, 61));
        checks.due("then behind all", 4, Stores.append(store, 4, 62));
        store.cut(0, 0);
        checks.due("the first one", 0, Stores.append(store, 5, 70));
    }

    /** "otherwise the least free block gets it": one that is only saved is not free. */
    private static void keepsSavedBlocks(Checks checks) {
        SharedBlockStore store = new SharedBlockStore();
        Stores.append(store, 0, 10);
        store.save();
        store.cut(0, 0);
        checks.due("a saved block is not free", 1, Stores.append(store, 0, 11));
        checks.due("a saved content is found", 0, Stores.append(store, 0, 10));
        checks.due("writes", 9, store.writes());
    }

    /** "The block's number; NONE if there is no free one (the stage stays, gate and index too)" */
    private static void answersNoneWhenFull(Checks checks) {
        SharedBlockStore store = new SharedBlockStore();
        Stores.fill(store, 0, 0, 40);
        checks.due("used", 40, store.count(0));
        int gate = store.count(2);
        String cells = Stores.cells(store, 0, 64);
        checks.due("append without a free block", SharedBlockStore.NONE, Stores.append(store, 4, 64));
        checks.due("gate stays", gate, store.count(2));
        checks.dueText("index stays", cells, Stores.cells(store, 0, 64));
        checks.due("file stays", 0, store.blocks(4));
        checks.due("writes", 40, store.writes());
        store.crashAfter(0);
        checks.due("no write, so none is lost", SharedBlockStore.NONE, store.append(4));
        checks.due("not down", false, store.down());
        store.crashAfter(SharedBlockStore.NONE);
        store.cut(0, 11);
        checks.due("the stage that stayed", 11, store.append(4));
        checks.due("its last word", 64, store.word(4, 0, 3));
    }

    /** "and if it is found, that is the block", also when no block is free, nor a write would be done. */
    private static void needsNoFreeBlockForAKnownContent(Checks checks) {
        SharedBlockStore store = new SharedBlockStore();
        Stores.fill(store, 0, 0, 40);
        store.crashAfter(0);
        checks.due("a known content", 39, Stores.append(store, 4, 39));
        checks.due("not down", false, store.down());
        checks.due("the stage", 0, store.drop());
        checks.due("blocks", 1, store.blocks(4));
    }

    /** "DOWN if the write is lost." */
    private static void losesItsWrite(Checks checks) {
        SharedBlockStore store = new SharedBlockStore();
        Stores.append(store, 0, 10);
        store.save();
        store.crashAfter(0);
        checks.due("a known content needs no write", 0, Stores.append(store, 1, 10));
        checks.due("a lost write", SharedBlockStore.DOWN, Stores.append(store, 1, 11));
        checks.due("down", true, store.down());
        checks.due("writes", 8, store.writes());
        checks.due("recover", 1, store.recover());
        checks.due("blocks of file 1", 0, store.blocks(1));
        checks.due("used", 1, store.count(0));
        Stores.feed(store, 1, 2, 3, 11);
        checks.due("what was lost", SharedBlockStore.NONE, store.find());
        checks.due("the block it would have had", 1, store.append(1));
    }

    /** "IllegalState: DOWN; IndexOutOfBounds; IllegalState": no such file wins over the stage. */
    private static void refusesNoSuchFileFirst(Checks checks) {
        SharedBlockStore store = new SharedBlockStore();
        checks.outOfBounds("file 6, an empty stage", () -> store.append(6));
        checks.outOfBounds("file -1, an empty stage", () -> store.append(-1));
        Stores.feed(store, 1, 2, 3, 4);
        checks.outOfBounds("file 6, a full stage", () -> store.append(6));
        checks.outOfBounds("file -1, a full stage", () -> store.append(-1));
        checks.due("the stage stays", 4, store.drop());
    }

    /** "the stage has less than four words" */
    private static void refusesAShortStage(Checks checks) {
        SharedBlockStore store = new SharedBlockStore();
        for (int n = 0; n < 4; n++) {
            checks.illegalState("a stage of " + n, () -> store.append(5));
            checks.due("the next word", n + 1, store.feed(n));
        }
        checks.due("a stage of four", 0, store.append(5));
    }

    /** "or the file has 12 blocks.", also when the content is known and no block would be needed. */
    private static void refusesAFullFile(Checks checks) {
        SharedBlockStore store = new SharedBlockStore();
        for (int i = 0; i < 12; i++) {
            checks.due("append to the row", 0, Stores.append(store, 2, 7));
        }
        Stores.feed(store, 1, 2, 3, 7);
        checks.illegalState("a known content", () -> store.append(2));
        store.drop();
        Stores.feed(store, 1, 2, 3, 8);
        checks.illegalState("a new content", () -> store.append(2));
        checks.due("blocks of the full file", 12, store.blocks(2));
        checks.due("probes", 11, store.probes());
        checks.due("the stage of a refused append", 1, store.append(3));
    }

    /** "IllegalState: DOWN; IndexOutOfBounds" */
    private static void refusesWhenDown(Checks checks) {
        SharedBlockStore down = Stores.downWithFullStage();
        checks.illegalState("append when down", () -> down.append(0));
        checks.illegalState("down wins", () -> down.append(6));
    }
}
