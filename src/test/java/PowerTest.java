/** Promises 16, 17, 18 and 20. */
final class PowerTest {
    public static void main(String[] args) {
        Checks checks = new Checks();
        tellsHowMany(checks);
        tellsNoneLeft(checks);
        tellsAThousand(checks);
        tellsThatNoneIsLost(checks);
        tellsAnew(checks);
        refuses(checks);
        isDown(checks);
        tellsWhenDown(checks);
        recoversWhenNotDown(checks);
        recoversWhenDown(checks);
        recoversTwice(checks);
        recoversTheIndex(checks);
        recoversFreeBlocks(checks);
        answersWhenDown(checks);
        checks.end();
    }

    /** "From now on n writes are done, and all behind them lost" */
    private static void tellsHowMany(Checks checks) {
        SharedBlockStore store = new SharedBlockStore();
        Stores.append(store, 0, 1);
        store.crashAfter(2);
        checks.due("first write", 1, Stores.append(store, 0, 2));
        checks.due("second write", 2, Stores.append(store, 0, 3));
        checks.due("not down by the last that is done", false, store.down());
        checks.due("no write", 2, Stores.append(store, 0, 3));
        checks.due("third write", SharedBlockStore.DOWN, Stores.append(store, 0, 4));
        checks.due("down", true, store.down());
        checks.due("writes", 3, store.writes());
    }

    /** "From now on n writes are done": none if n is 0, but calls that do not write go on. */
    private static void tellsNoneLeft(Checks checks) {
        SharedBlockStore store = new SharedBlockStore();
        Stores.append(store, 0, 1);
        store.crashAfter(0);
        checks.due("telling alone is not failing", false, store.down());
        checks.due("feed then", 1, store.feed(1));
        checks.due("drop then", 1, store.drop());
        checks.due("append of a known content then", 0, Stores.append(store, 1, 1));
        checks.due("copy then", 0, store.copy(2, 0));
        checks.due("cut then", 0, store.cut(0, 0));
        store.refresh();
        checks.due("count then", 1, store.count(0));
        checks.due("save then", SharedBlockStore.DOWN, store.save());
        checks.due("writes", 1, store.writes());
    }

    /** "n is not NONE .. 1000": 1000 writes can be told, and are done. */
    private static void tellsAThousand(Checks checks) {
        SharedBlockStore store = new SharedBlockStore();
        store.crashAfter(1000);
        for (int number = 1; number <= 142; number++) {
            checks.due("save", number, store.save());
        }
        checks.due("writes of 142 savings", 994, store.writes());
        checks.due("the head is write 1001", SharedBlockStore.DOWN, store.save());
        checks.due("writes at last", 1000, store.writes());
    }

    /** "NONE: none will be lost." */
    private static void tellsThatNoneIsLost(Checks checks) {
        SharedBlockStore store = new SharedBlockStore();
        store.crashAfter(1);
        Stores.append(store, 0, 1);
        store.crashAfter(SharedBlockStore.NONE);
        for (int number = 1; number <= 150; number++) {
            checks.due("save", number, store.save());
        }
        checks.due("writes", 1051, store.writes());
    }

    /** "From now on": what was told last holds, with writes counted from then. */
    private static void tellsAnew(Checks checks) {
        SharedBlockStore store = new SharedBlockStore();
        store.crashAfter(0);
        store.crashAfter(1);
        checks.due("the later one is more", 0, Stores.append(store, 0, 1));
        store.crashAfter(1);
        checks.due("from now on again", 1, Stores.append(store, 0, 2));
        checks.due("and no more", SharedBlockStore.DOWN, Stores.append(store, 0, 3));
        SharedBlockStore less = new SharedBlockStore();
        less.crashAfter(100);
        less.crashAfter(0);
        checks.due("the later one is less", SharedBlockStore.DOWN, less.save());
    }

    /** "IllegalArgument: n is not NONE .. 1000." */
    private static void refuses(Checks checks) {
        SharedBlockStore store = new SharedBlockStore();
        store.crashAfter(1);
        checks.illegalArgument("-2", () -> store.crashAfter(-2));
        checks.illegalArgument("1001", () -> store.crashAfter(1001));
        checks.illegalArgument("the least int", () -> store.crashAfter(Integer.MIN_VALUE));
        checks.illegalArgument("the greatest int", () -> store.crashAfter(Integer.MAX_VALUE));
        checks.due("what was told before holds", 0, Stores.append(store, 0, 1));
        checks.due("and fails", SharedBlockStore.DOWN, Stores.append(store, 0, 2));
        checks.illegalArgument("-2 when down", () -> store.crashAfter(-2));
        checks.illegalArgument("1001 when down", () -> store.crashAfter(1001));
    }

    /** "Whether the store is DOWN." */
    private static void isDown(Checks checks) {
        SharedBlockStore store = new SharedBlockStore();
        checks.due("new", false, store.down());
        store.crashAfter(0);
        checks.due("told to fail", false, store.down());
        store.save();
        checks.due("a write was lost", true, store.down());
        checks.due("asked again", true, store.down());
        store.recover();
        checks.due("recovered", false, store.down());
    }

    /** "Whether the store is DOWN.": telling the power something then does not bring it back; recover does. */
    private static void tellsWhenDown(Checks checks) {
        for (int n : new int[] {SharedBlockStore.NONE, 0, 1, 1000}) {
            SharedBlockStore store = Stores.down();
            store.crashAfter(n);
            checks.due("still down", true, store.down());
            checks.illegalState("feed", () -> store.feed(1));
            checks.due("recover", 0, store.recover());
            checks.due("up again", false, store.down());
            checks.due("nothing is lost by what was told when down", 1, store.save());
        }
    }

    /** "The power comes back, DOWN or not: no write will be lost; files become as they were SAVED last" */
    private static void recoversWhenNotDown(Checks checks) {
        SharedBlockStore store = new SharedBlockStore();
        Stores.append(store, 0, 10);
        Stores.append(store, 1, 11);
        store.save();
        store.copy(0, 1);
        store.cut(1, 0);
        Stores.append(store, 2, 12);
        store.feed(1);
        store.crashAfter(0);
        checks.due("recover", 1, store.recover());
        checks.dueText("row 0", "0", Stores.row(store, 0));
        checks.dueText("row 1", "1", Stores.row(store, 1));
        checks.dueText("row 2", "", Stores.row(store, 2));
        checks.due("word 3 of block 0", 10, store.word(0, 0, 3));
        checks.due("the stage", 0, store.drop());
        checks.due("used", 2, store.count(0));
        checks.due("no write is lost", 2, Stores.append(store, 2, 13));
        checks.due("save", 2, store.save());
        checks.due("recover again", 2, store.recover());
        checks.dueText("row 2 then", "2", Stores.row(store, 2));
    }

    /** "the stage empty, the index is made anew. The number of that saving." */
    private static void recoversWhenDown(Checks checks) {
        SharedBlockStore store = new SharedBlockStore();
        Stores.append(store, 0, 10);
        store.save();
        store.save();
        Stores.feed(store, 1, 2, 3, 4);
        store.crashAfter(3);
        store.save();
        checks.due("recover", 2, store.recover());
        checks.due("down", false, store.down());
        checks.due("the stage is empty", 1, store.feed(5));
        checks.dueText("row 0", "0", Stores.row(store, 0));
        checks.due("the saving behind it", 3, store.save());
    }

    /** "The number of that saving.": recovering changes neither what was saved nor its number. */
    private static void recoversTwice(Checks checks) {
        SharedBlockStore store = new SharedBlockStore();
        Stores.append(store, 3, 10);
        store.save();
        for (int i = 0; i < 3; i++) {
            store.cut(3, 0);
            Stores.append(store, 3, 11);
            checks.due("recover", 1, store.recover());
            checks.due("recover at once again", 1, store.recover());
            checks.dueText("row 3", "0", Stores.row(store, 3));
            checks.due("last word", 10, store.word(3, 0, 3));
        }
    }

    /** "the index is made anew": by rising numbers, and without the bits of what is gone. */
    private static void recoversTheIndex(Checks checks) {
        SharedBlockStore store = new SharedBlockStore();
        Stores.append(store, 0, 60);
        Stores.append(store, 1, 124);
        store.cut(0, 0);
        Stores.append(store, 2, 188);
        checks.dueText("cells", "1 0 -1", Stores.cells(store, 62, 3));
        store.save();
        Stores.append(store, 3, 252);
        checks.due("bits of four contents", 6, store.count(2));
        store.crashAfter(3);
        store.save();
        int probes = store.probes();
        checks.due("recover", 1, store.recover());
        checks.dueText("cells by rising numbers", "0 1 -1", Stores.cells(store, 62, 3));
        checks.due("bits 62, 60, 63, 15", 4, store.count(2));
        checks.due("no probes", probes, store.probes());
        checks.due("writes", 3 + 7 + 1 + 3, store.writes());
    }

    /** "the index is made anew": blocks that recovering took from files are out of it, and not taken out later. */
    private static void recoversFreeBlocks(Checks checks) {
        SharedBlockStore cut = recoveredWithFreeBlocks(checks);
        checks.due("cut of nothing", 0, cut.cut(5, 0));
        checks.dueText("cells after it", "1 -1 -1", Stores.cells(cut, 62, 3));
        SharedBlockStore copied = recoveredWithFreeBlocks(checks);
        checks.due("copy of nothing", 0, copied.copy(5, 4));
        checks.dueText("cells after that", "1 -1 -1", Stores.cells(copied, 62, 3));
        SharedBlockStore saved = recoveredWithFreeBlocks(checks);
        checks.due("save", 2, saved.save());
        checks.dueText("cells after saving", "1 -1 -1", Stores.cells(saved, 62, 3));
    }

    /** The blocks 0 and 2, which are not saved, were in the cells 62 and 0, the saved block 1 in 63. */
    private static SharedBlockStore recoveredWithFreeBlocks(Checks checks) {
        SharedBlockStore store = new SharedBlockStore();
        Stores.append(store, 0, 10);
        Stores.append(store, 1, 60);
        store.cut(0, 0);
        store.save();
        Stores.append(store, 2, 124);
        Stores.append(store, 2, 188);
        store.refresh();
        checks.dueText("cells before", "0 1 2", Stores.cells(store, 62, 3));
        checks.due("recover", 1, store.recover());
        checks.dueText("cells of what is saved", "1 -1 -1", Stores.cells(store, 62, 3));
        return store;
    }

    /** "How many probes there were." and "How many writes were done", also when the store is DOWN. */
    private static void answersWhenDown(Checks checks) {
        SharedBlockStore store = new SharedBlockStore();
        Stores.append(store, 0, 60);
        Stores.append(store, 0, 60);
        store.crashAfter(4);
        store.save();
        checks.due("down", true, store.down());
        checks.due("probes", 1, store.probes());
        checks.due("writes", 5, store.writes());
    }
}
