/** Promises 15 and 20. */
final class SaveTest {
    public static void main(String[] args) {
        Checks checks = new Checks();
        answersItsNumber(checks);
        leavesFilesAndStage(checks);
        givesBackWhatWasSavedBefore(checks);
        answersDownWhenAWriteIsLost(checks);
        countsWrites(checks);
        refusesWhenDown(checks);
        checks.end();
    }

    /** "SAVING: its number" */
    private static void answersItsNumber(Checks checks) {
        SharedBlockStore store = new SharedBlockStore();
        checks.due("first, of nothing", 1, store.save());
        Stores.append(store, 4, 1);
        checks.due("second", 2, store.save());
        checks.due("third, of the same", 3, store.save());
        checks.due("recover", 3, store.recover());
        checks.due("fourth", 4, store.save());
    }

    /** "SAVING: its number": files and stage are as before. */
    private static void leavesFilesAndStage(Checks checks) {
        SharedBlockStore store = new SharedBlockStore();
        Stores.append(store, 4, 1);
        Stores.append(store, 4, 1);
        store.feed(1);
        store.save();
        checks.dueText("row", "0 0", Stores.row(store, 4));
        checks.due("the stage", 1, store.drop());
        checks.due("probes", 1, store.probes());
    }

    /** "blocks that are free by that are taken out": they can be had again at once. */
    private static void givesBackWhatWasSavedBefore(Checks checks) {
        SharedBlockStore store = new SharedBlockStore();
        Stores.fill(store, 0, 0, 40);
        store.save();
        store.cut(3, 3);
        checks.due("still saved", SharedBlockStore.NONE, Stores.append(store, 4, 40));
        checks.due("save", 2, store.save());
        checks.due("not saved any more", 39, store.append(4));
    }

    /** "DOWN if a write is lost.": be it the first, the last or one between, and what was saved before stays. */
    private static void answersDownWhenAWriteIsLost(Checks checks) {
        for (int done = 0; done < 7; done++) {
            SharedBlockStore store = new SharedBlockStore();
            Stores.append(store, 0, 10);
            Stores.append(store, 5, 11);
            store.save();
            Stores.append(store, 0, 12);
            store.cut(5, 0);
            store.crashAfter(done);
            checks.due("a lost write", SharedBlockStore.DOWN, store.save());
            checks.due("down", true, store.down());
            checks.due("writes", 10 + done, store.writes());
            checks.due("recover", 1, store.recover());
            checks.dueText("row 0", "0", Stores.row(store, 0));
            checks.dueText("row 5", "1", Stores.row(store, 5));
            checks.due("number", 1, store.count(3));
            checks.due("used", 2, store.count(0));
            checks.due("the next saving", 2, store.save());
        }
        SharedBlockStore store = new SharedBlockStore();
        store.crashAfter(7);
        checks.due("no lost write", 1, store.save());
        checks.due("not down", false, store.down());
    }

    /** "How many writes were done (not those that were lost)." */
    private static void countsWrites(Checks checks) {
        SharedBlockStore store = new SharedBlockStore();
        checks.due("writes of a new store", 0, store.writes());
        store.save();
        checks.due("six rows and a head", 7, store.writes());
        Stores.append(store, 4, 1);
        store.save();
        checks.due("a block, six rows and a head more", 15, store.writes());
        store.crashAfter(0);
        Stores.append(store, 4, 2);
        checks.due("not a block that was lost", 15, store.writes());
        store.recover();
        checks.due("nor a recovering", 15, store.writes());
        store.crashAfter(2);
        store.save();
        checks.due("two of three rows", 17, store.writes());
        store.recover();
        store.save();
        checks.due("all of them again", 24, store.writes());
    }

    /** "DOWN if a write is lost. IllegalState." */
    private static void refusesWhenDown(Checks checks) {
        SharedBlockStore down = Stores.down();
        checks.illegalState("save when down", down::save);
        down.crashAfter(SharedBlockStore.NONE);
        checks.illegalState("save when down, though no write will be lost", down::save);
        checks.due("writes when down", 0, down.writes());
    }
}
