/** Promise 4. */
final class AppendTest {
    public static void main(String[] args) {
        Checks checks = new Checks();
        sharesContents(checks);
        takesTheLeastFree(checks);
        looksUpBehindTheGateOnly(checks);
        keepsSavedBlocks(checks);
        answersNoneWhenFull(checks);
        refuses(checks);
        losesItsWrite(checks);
        checks.end();
    }

    private static void sharesContents(Checks checks) {
        SharedBlockStore store = new SharedBlockStore();
        checks.due("first content", 0, Stores.append(store, 0, 10));
        checks.due("second content", 1, Stores.append(store, 0, 11));
        checks.due("first content again", 0, Stores.append(store, 0, 10));
        checks.due("first content elsewhere", 0, Stores.append(store, 5, 10));
        checks.due("writes", 2, store.writes());
        checks.due("used", 2, store.count(0));
        checks.dueText("row 0", "0 1 0", Stores.row(store, 0));
        checks.dueText("row 5", "0", Stores.row(store, 5));
        checks.due("stage after append", 0, store.drop());
        checks.due("words in another order", 2, Stores.append(store, 1, 10, 3, 2, 1));
    }

    private static void takesTheLeastFree(Checks checks) {
        SharedBlockStore store = new SharedBlockStore();
        for (int file = 0; file < 4; file++) {
            Stores.append(store, file, file);
        }
        store.cut(2, 0);
        store.cut(1, 0);
        checks.due("least free", 1, Stores.append(store, 4, 50));
        checks.due("next free", 2, Stores.append(store, 4, 51));
        checks.due("then behind all", 4, Stores.append(store, 4, 52));
    }

    private static void looksUpBehindTheGateOnly(Checks checks) {
        SharedBlockStore store = new SharedBlockStore();
        Stores.append(store, 0, 60);
        // The bits of 1, 2, 3, 60 are 62, 31, 60; those of 1, 2, 3, 124 are 62, 15, 60.
        Stores.append(store, 0, 124);
        checks.due("probes when bits are missing", 0, store.probes());
        Stores.append(store, 0, 124);
        checks.due("probes when it is found in the second cell", 2, store.probes());
        store.cut(0, 1);
        Stores.append(store, 1, 124);
        checks.due("probes when the gate still lets what is gone", 4, store.probes());
        checks.due("writes", 3, store.writes());
    }

    private static void keepsSavedBlocks(Checks checks) {
        SharedBlockStore store = new SharedBlockStore();
        Stores.append(store, 0, 10);
        store.save();
        store.cut(0, 0);
        checks.due("a saved block is not free", 1, Stores.append(store, 0, 11));
        checks.due("a saved content is found", 0, Stores.append(store, 0, 10));
        checks.due("writes", 9, store.writes());
    }

    private static void answersNoneWhenFull(Checks checks) {
        SharedBlockStore store = new SharedBlockStore();
        Stores.fill(store, 0, 0, 40);
        checks.due("used", 40, store.count(0));
        int gate = store.count(2);
        String cells = Stores.cells(store, 0, 64);
        checks.due("append without a free block", SharedBlockStore.NONE, Stores.append(store, 4, 64));
        checks.due("gate stays", gate, store.count(2));
        checks.dueText("index stays", cells, Stores.cells(store, 0, 64));
        checks.due("file stays", 0, store.blocks(4));
        checks.due("writes", 40, store.writes());
        checks.due("stage stays", 4, store.drop());
        store.crashAfter(0);
        checks.due("no write, so none lost", SharedBlockStore.NONE, Stores.append(store, 4, 64));
        checks.due("not down", false, store.down());
        store.drop();
        checks.due("a known content needs none", 39, Stores.append(store, 4, 39));
    }

    private static void refuses(Checks checks) {
        SharedBlockStore store = new SharedBlockStore();
        checks.illegalState("an empty stage", () -> store.append(0));
        checks.outOfBounds("no such file wins over the stage", () -> store.append(6));
        checks.outOfBounds("file -1", () -> store.append(-1));
        store.feed(1);
        store.feed(2);
        store.feed(3);
        checks.illegalState("three words", () -> store.append(5));
        checks.due("stage after it", 3, store.drop());
        for (int i = 0; i < 12; i++) {
            checks.due("append to the row", 0, Stores.append(store, 2, 7));
        }
        Stores.feed(store, 1, 2, 3, 8);
        checks.illegalState("a full file", () -> store.append(2));
        checks.outOfBounds("file 6", () -> store.append(6));
        checks.due("blocks of the full file", 12, store.blocks(2));
        checks.due("the stage of a refused append", 1, store.append(3));
        SharedBlockStore down = Stores.downWithFullStage();
        checks.illegalState("append when down", () -> down.append(0));
        checks.illegalState("down wins", () -> down.append(6));
    }

    private static void losesItsWrite(Checks checks) {
        SharedBlockStore store = new SharedBlockStore();
        Stores.append(store, 0, 10);
        store.save();
        store.crashAfter(0);
        checks.due("a known content needs no write", 0, Stores.append(store, 1, 10));
        checks.due("a lost write", SharedBlockStore.DOWN, Stores.append(store, 1, 11));
        checks.due("down", true, store.down());
        checks.due("writes", 8, store.writes());
        checks.due("recover", 1, store.recover());
        checks.due("blocks of file 1", 0, store.blocks(1));
        checks.due("used", 1, store.count(0));
        Stores.feed(store, 1, 2, 3, 11);
        checks.due("what was lost", SharedBlockStore.NONE, store.find());
        checks.due("the block it would have had", 1, store.append(1));
    }
}
