/** Promises 15 and 20. */
final class SaveTest {
    public static void main(String[] args) {
        Checks checks = new Checks();
        numbersAndWrites(checks);
        givesBackWhatWasSavedBefore(checks);
        everyLostWriteKeepsTheSavingBefore(checks);
        slotsInTurn(checks);
        checks.end();
    }

    private static void numbersAndWrites(Checks checks) {
        SharedBlockStore store = new SharedBlockStore();
        checks.due("first", 1, store.save());
        checks.due("six rows and a head", 7, store.writes());
        Stores.append(store, 4, 1);
        checks.due("second", 2, store.save());
        checks.due("a block, six rows and a head more", 15, store.writes());
        Stores.append(store, 4, 1);
        store.cut(4, 1);
        store.copy(3, 4);
        store.refresh();
        store.recover();
        checks.due("no other writes", 15, store.writes());
        store.feed(1);
        store.save();
        checks.due("the stage stays", 1, store.drop());
        SharedBlockStore down = Stores.down();
        checks.illegalState("save when down", down::save);
        checks.due("writes when down", 0, down.writes());
    }

    private static void givesBackWhatWasSavedBefore(Checks checks) {
        SharedBlockStore store = new SharedBlockStore();
        // Homes 62, 62, 62, 62 in the cells 62, 63, 0, 1.
        int[] lasts = {60, 124, 188, 252};
        for (int i = 0; i < lasts.length; i++) {
            Stores.append(store, i, lasts[i]);
        }
        store.save();
        checks.due("cut of a saved one", 0, store.cut(0, 0));
        checks.due("cut of another", 0, store.cut(2, 0));
        checks.dueText("cells before", "0 1 2 3 -1", Stores.cells(store, 62, 5));
        checks.due("save", 2, store.save());
        checks.dueText("cells after", "1 3 -1 -1 -1", Stores.cells(store, 62, 5));
        checks.due("used", 2, store.count(0));
        checks.due("the least free one", 0, Stores.append(store, 5, 7));
        checks.due("probes", 0, store.probes());
    }

    private static void everyLostWriteKeepsTheSavingBefore(Checks checks) {
        for (int done = 0; done < 7; done++) {
            SharedBlockStore store = new SharedBlockStore();
            Stores.append(store, 0, 10);
            Stores.append(store, 5, 11);
            store.save();
            Stores.append(store, 0, 12);
            store.cut(5, 0);
            store.crashAfter(done);
            checks.due("a lost write", SharedBlockStore.DOWN, store.save());
            checks.due("down", true, store.down());
            checks.due("writes", 10 + done, store.writes());
            checks.due("recover", 1, store.recover());
            checks.dueText("row 0", "0", Stores.row(store, 0));
            checks.dueText("row 5", "1", Stores.row(store, 5));
            checks.due("number", 1, store.count(3));
            checks.due("used", 2, store.count(0));
            checks.due("the next saving", 2, store.save());
        }
        SharedBlockStore store = new SharedBlockStore();
        store.crashAfter(7);
        checks.due("no lost write", 1, store.save());
        checks.due("not down", false, store.down());
    }

    private static void slotsInTurn(Checks checks) {
        SharedBlockStore store = new SharedBlockStore();
        for (int number = 1; number <= 4; number++) {
            Stores.append(store, 1, number);
            checks.due("save", number, store.save());
            // Two savings that fail one after the other must both leave the good slot alone.
            for (int failing = 0; failing < 2; failing++) {
                Stores.append(store, 1, 50);
                store.crashAfter(6);
                checks.due("failing save", SharedBlockStore.DOWN, store.save());
                checks.due("recover", number, store.recover());
                checks.due("blocks", number, store.blocks(1));
                checks.due("last word", number, store.word(1, number - 1, 3));
            }
        }
    }
}
