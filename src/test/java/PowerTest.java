/** Promises 16, 17, 18 and 20. */
final class PowerTest {
    public static void main(String[] args) {
        Checks checks = new Checks();
        tellsHowMany(checks);
        tellsAnew(checks);
        refuses(checks);
        tellsWhenDown(checks);
        recoversWhenNotDown(checks);
        recoversTheIndex(checks);
        checks.end();
    }

    private static void tellsHowMany(Checks checks) {
        SharedBlockStore store = new SharedBlockStore();
        store.crashAfter(2);
        checks.due("first write", 0, Stores.append(store, 0, 1));
        checks.due("second write", 1, Stores.append(store, 0, 2));
        checks.due("not down by the last that is done", false, store.down());
        checks.due("no write", 1, Stores.append(store, 0, 2));
        checks.due("third write", SharedBlockStore.DOWN, Stores.append(store, 0, 3));
        checks.due("down", true, store.down());
        checks.due("writes", 2, store.writes());
        SharedBlockStore calm = new SharedBlockStore();
        calm.crashAfter(0);
        checks.due("telling alone is not failing", false, calm.down());
        checks.due("feed then", 1, calm.feed(1));
        checks.due("cut then", 0, calm.cut(0, 0));
        checks.due("save then", SharedBlockStore.DOWN, calm.save());
        SharedBlockStore thousand = new SharedBlockStore();
        thousand.crashAfter(1000);
        for (int number = 1; number <= 142; number++) {
            checks.due("save", number, thousand.save());
        }
        checks.due("writes of 142 savings", 994, thousand.writes());
        checks.due("the head is write 1001", SharedBlockStore.DOWN, thousand.save());
        checks.due("writes at last", 1000, thousand.writes());
    }

    private static void tellsAnew(Checks checks) {
        SharedBlockStore store = new SharedBlockStore();
        store.crashAfter(1);
        Stores.append(store, 0, 1);
        store.crashAfter(SharedBlockStore.NONE);
        checks.due("none will be lost", 1, store.save());
        store.crashAfter(0);
        store.crashAfter(1);
        checks.due("the later one counts", 1, Stores.append(store, 0, 2));
        checks.due("and no more", SharedBlockStore.DOWN, Stores.append(store, 0, 3));
    }

    private static void refuses(Checks checks) {
        SharedBlockStore store = new SharedBlockStore();
        store.crashAfter(1);
        checks.illegalArgument("-2", () -> store.crashAfter(-2));
        checks.illegalArgument("1001", () -> store.crashAfter(1001));
        checks.illegalArgument("the least int", () -> store.crashAfter(Integer.MIN_VALUE));
        checks.illegalArgument("the greatest int", () -> store.crashAfter(Integer.MAX_VALUE));
        checks.due("what was told before holds", 0, Stores.append(store, 0, 1));
        checks.due("and fails", SharedBlockStore.DOWN, Stores.append(store, 0, 2));
        checks.illegalArgument("-2 when down", () -> store.crashAfter(-2));
    }

    private static void tellsWhenDown(Checks checks) {
        SharedBlockStore store = Stores.down();
        store.crashAfter(SharedBlockStore.NONE);
        checks.due("still down", true, store.down());
        checks.illegalState("feed", () -> store.feed(1));
        store.crashAfter(0);
        checks.due("recover", 0, store.recover());
        checks.due("up again", false, store.down());
        checks.due("nothing is lost by what was told when down", 1, store.save());
    }

    private static void recoversWhenNotDown(Checks checks) {
        SharedBlockStore store = new SharedBlockStore();
        Stores.append(store, 0, 10);
        Stores.append(store, 1, 11);
        store.save();
        store.copy(0, 1);
        store.cut(1, 0);
        Stores.append(store, 2, 12);
        store.feed(1);
        store.crashAfter(0);
        checks.due("recover", 1, store.recover());
        checks.dueText("row 0", "0", Stores.row(store, 0));
        checks.dueText("row 1", "1", Stores.row(store, 1));
        checks.dueText("row 2", "", Stores.row(store, 2));
        checks.due("word 3 of block 0", 10, store.word(0, 0, 3));
        checks.due("the stage", 0, store.drop());
        checks.due("used", 2, store.count(0));
        checks.due("no write is lost", 2, Stores.append(store, 2, 13));
        checks.due("save", 2, store.save());
        checks.due("recover again", 2, store.recover());
        checks.dueText("row 2 then", "2", Stores.row(store, 2));
    }

    private static void recoversTheIndex(Checks checks) {
        SharedBlockStore store = new SharedBlockStore();
        Stores.append(store, 0, 60);
        Stores.append(store, 1, 124);
        store.cut(0, 0);
        Stores.append(store, 2, 188);
        checks.dueText("cells", "1 0 -1", Stores.cells(store, 62, 3));
        store.save();
        Stores.append(store, 3, 252);
        checks.due("bits of four contents", 6, store.count(2));
        store.crashAfter(3);
        store.save();
        int probes = store.probes();
        checks.due("recover", 1, store.recover());
        checks.dueText("cells by rising numbers", "0 1 -1", Stores.cells(store, 62, 3));
        checks.due("bits 62, 60, 63, 15", 4, store.count(2));
        checks.due("no probes", probes, store.probes());
        checks.due("writes", 3 + 7 + 1 + 3, store.writes());
    }
}
