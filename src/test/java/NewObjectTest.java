/** Promise 1, and how long an object is used. */
final class NewObjectTest {
    public static void main(String[] args) {
        Checks checks = new Checks();
        constants(checks);
        filesAndStageEmpty(checks);
        savedSoWithNumber0(checks);
        nothingUsed(checks);
        powerNotToldToFail(checks);
        objectsAreApart(checks);
        lastCallsAnswer(checks);
        checks.end();
    }

    private static void constants(Checks checks) {
        checks.due("NONE", -1, SharedBlockStore.NONE);
        checks.due("DOWN", -2, SharedBlockStore.DOWN);
    }

    /** "All files and the stage empty" */
    private static void filesAndStageEmpty(Checks checks) {
        SharedBlockStore store = new SharedBlockStore();
        for (int file = 0; file < 6; file++) {
            int asked = file;
            checks.due("blocks of a new file", 0, store.blocks(file));
            checks.outOfBounds("block of a new file", () -> store.block(asked, 0));
            checks.outOfBounds("word of a new file", () -> store.word(asked, 0, 0));
        }
        checks.due("drop of a new stage", 0, store.drop());
        checks.illegalState("find with a new stage", store::find);
    }

    /** "saved so with the number 0;" */
    private static void savedSoWithNumber0(Checks checks) {
        SharedBlockStore store = new SharedBlockStore();
        checks.due("number of the latest saving", 0, store.count(3));
        checks.due("recover of a new store", 0, store.recover());
        Stores.append(store, 0, 1);
        Stores.append(store, 5, 2);
        store.feed(1);
        checks.due("recover without a saving", 0, store.recover());
        checks.due("file 0 after it", 0, store.blocks(0));
        checks.due("file 5 after it", 0, store.blocks(5));
        checks.due("used after it", 0, store.count(0));
        checks.due("stage after it", 0, store.drop());
    }

    /** "nothing used;" */
    private static void nothingUsed(Checks checks) {
        SharedBlockStore store = new SharedBlockStore();
        for (int what = 0; what < 3; what++) {
            checks.due("count of a new store", 0, store.count(what));
        }
        checks.dueText("index of a new store", "[]", Stores.indexed(store));
        Stores.feed(store, 0, 0, 0, 0);
        checks.due("find of zeros, which new blocks may have", SharedBlockStore.NONE, store.find());
        checks.due("passes", false, store.passes());
        checks.due("the first block is free", 0, store.append(0));
    }

    /** "the power is not told to fail." */
    private static void powerNotToldToFail(Checks checks) {
        SharedBlockStore store = new SharedBlockStore();
        checks.due("down", false, store.down());
        checks.due("probes", 0, store.probes());
        checks.due("writes", 0, store.writes());
        for (int number = 1; number <= 150; number++) {
            checks.due("save", number, store.save());
        }
        checks.due("writes of 150 savings", 1050, store.writes());
    }

    private static void objectsAreApart(Checks checks) {
        SharedBlockStore one = new SharedBlockStore();
        SharedBlockStore two = new SharedBlockStore();
        Stores.append(one, 0, 1);
        one.save();
        one.crashAfter(0);
        checks.due("blocks of the other object", 0, two.blocks(0));
        checks.due("writes of the other object", 0, two.writes());
        checks.due("gate of the other object", 0, two.count(2));
        checks.due("saving of the other object", 1, two.save());
    }

    /**
     * "An object is used for at most 512 calls after it has been made; what later calls answer is free." The last
     * of them answer as the first.
     */
    private static void lastCallsAnswer(Checks checks) {
        SharedBlockStore store = new SharedBlockStore();
        for (int number = 1; number <= 63; number++) {
            checks.due("append", 0, Stores.append(store, 0, 1));
            checks.due("save", number, store.save());
            checks.due("cut of a saved block", 0, store.cut(0, 0));
            checks.due("blocks after it", 0, store.blocks(0));
        }
        checks.due("call 505", 63, store.count(3));
        checks.due("call 506", 442, store.writes());
        store.feed(1);
        store.feed(2);
        store.feed(3);
        store.feed(1);
        checks.due("call 511", 0, store.find());
        checks.due("call 512", 63, store.recover());
    }
}
