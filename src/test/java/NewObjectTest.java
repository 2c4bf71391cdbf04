/** Promise 1. */
final class NewObjectTest {
    public static void main(String[] args) {
        Checks checks = new Checks();
        SharedBlockStore store = new SharedBlockStore();
        for (int file = 0; file < 6; file++) {
            checks.due("blocks of a new file", 0, store.blocks(file));
        }
        for (int c = 0; c < 64; c++) {
            checks.due("a new cell", SharedBlockStore.NONE, store.cell(c));
        }
        for (int what = 0; what < 4; what++) {
            checks.due("count of a new store", 0, store.count(what));
        }
        checks.due("probes", 0, store.probes());
        checks.due("writes", 0, store.writes());
        checks.due("down", false, store.down());
        checks.due("drop", 0, store.drop());
        checks.due("NONE", -1, SharedBlockStore.NONE);
        checks.due("DOWN", -2, SharedBlockStore.DOWN);
        savedEmpty(checks);
        powerStays(checks);
        objectsAreApart(checks);
        checks.end();
    }

    private static void savedEmpty(Checks checks) {
        SharedBlockStore store = new SharedBlockStore();
        Stores.append(store, 0, 1);
        checks.due("recover without a saving", 0, store.recover());
        checks.due("file after it", 0, store.blocks(0));
        checks.due("used after it", 0, store.count(0));
    }

    private static void powerStays(Checks checks) {
        SharedBlockStore store = new SharedBlockStore();
        for (int number = 1; number <= 150; number++) {
            checks.due("save", number, store.save());
        }
        checks.due("writes of 150 savings", 1050, store.writes());
    }

    private static void objectsAreApart(Checks checks) {
        SharedBlockStore one = new SharedBlockStore();
        SharedBlockStore two = new SharedBlockStore();
        Stores.append(one, 0, 1);
        checks.due("blocks of the other object", 0, two.blocks(0));
        checks.due("writes of the other object", 0, two.writes());
        checks.due("gate of the other object", 0, two.count(2));
    }
}
