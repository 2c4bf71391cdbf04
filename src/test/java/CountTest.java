/** Promise 13. */
final class CountTest {
    public static void main(String[] args) {
        Checks checks = new Checks();
        SharedBlockStore store = new SharedBlockStore();
        Stores.fill(store, 0, 60, 3);
        Stores.append(store, 1, 60);
        counts(checks, store, "three blocks", 3, 0, 0);
        store.save();
        counts(checks, store, "saved", 3, 0, 1);
        store.cut(0, 0);
        counts(checks, store, "cut down to block 0", 3, 2, 1);
        Stores.append(store, 2, 99);
        counts(checks, store, "one more", 4, 2, 1);
        Stores.append(store, 2, 61);
        counts(checks, store, "a saved one again", 4, 1, 1);
        store.save();
        counts(checks, store, "saved again", 3, 0, 2);
        store.save();
        counts(checks, store, "saved once more", 3, 0, 3);
        gate(checks);
        others(checks, store);
        checks.end();
    }

    private static void counts(Checks checks, SharedBlockStore store, String when, int used, int only, int number) {
        checks.due(when + ": used", used, store.count(0));
        checks.due(when + ": only saved", only, store.count(1));
        checks.due(when + ": number", number, store.count(3));
    }

    private static void gate(Checks checks) {
        SharedBlockStore store = new SharedBlockStore();
        Stores.append(store, 0, 60);
        checks.due("bits 62, 31, 60", 3, store.count(2));
        Stores.append(store, 0, 61);
        checks.due("bits 63, 31, 61 more", 5, store.count(2));
        Stores.append(store, 0, 60);
        checks.due("a known content", 5, store.count(2));
        Stores.append(store, 0, -1, -2, -3, -4);
        checks.due("bits 36, 9, 0 more", 8, store.count(2));
        SharedBlockStore high = new SharedBlockStore();
        Stores.append(high, 0, 0, 0, 0, 0);
        Stores.append(high, 0, -1, 0, 0, 0);
        checks.due("bits 31, 7, 0 and 1, 16, 63", 6, high.count(2));
    }

    private static void others(Checks checks, SharedBlockStore store) {
        checks.due("count(4)", SharedBlockStore.NONE, store.count(4));
        checks.due("count(-1)", SharedBlockStore.NONE, store.count(-1));
        checks.due("count of the least int", SharedBlockStore.NONE, store.count(Integer.MIN_VALUE));
        SharedBlockStore down = Stores.down();
        for (int what = -1; what < 5; what++) {
            int asked = what;
            checks.illegalState("count when down", () -> down.count(asked));
        }
    }
}
