/** Promise 13. */
final class CountTest {
    public static void main(String[] args) {
        Checks checks = new Checks();
        blocksAndSavings(checks);
        noneAndAll(checks);
        bits(checks);
        latestSaving(checks);
        others(checks);
        refusesWhenDown(checks);
        checks.end();
    }

    /** "What = 0: how many blocks are used; 1: how many of these no file has now" */
    private static void blocksAndSavings(Checks checks) {
        SharedBlockStore store = new SharedBlockStore();
        Stores.fill(store, 0, 60, 3);
        Stores.append(store, 1, 60);
        dueCounts(checks, store, "three blocks", 3, 0, 0);
        store.save();
        dueCounts(checks, store, "saved", 3, 0, 1);
        store.cut(0, 0);
        dueCounts(checks, store, "cut down to block 0", 3, 2, 1);
        Stores.append(store, 2, 99);
        dueCounts(checks, store, "one more", 4, 2, 1);
        Stores.append(store, 2, 61);
        dueCounts(checks, store, "a saved one again", 4, 1, 1);
        store.save();
        dueCounts(checks, store, "saved again", 3, 0, 2);
        store.save();
        dueCounts(checks, store, "saved once more", 3, 0, 3);
    }

    private static void dueCounts(Checks checks, SharedBlockStore store, String when, int used, int only, int number) {
        checks.due(when + ": used", used, store.count(0));
        checks.due(when + ": only saved", only, store.count(1));
        checks.due(when + ": number", number, store.count(3));
    }

    /** "how many blocks are used; 1: how many of these no file has now": none at all, and all forty. */
    private static void noneAndAll(Checks checks) {
        SharedBlockStore store = new SharedBlockStore();
        dueCounts(checks, store, "new", 0, 0, 0);
        Stores.fill(store, 0, 0, 40);
        dueCounts(checks, store, "forty", 40, 0, 0);
        store.save();
        for (int file = 0; file < 4; file++) {
            store.cut(file, 0);
        }
        dueCounts(checks, store, "forty that are only saved", 40, 40, 1);
        store.save();
        dueCounts(checks, store, "none any more", 0, 0, 2);
    }

    /** "2: how many bits of the gate are set" */
    private static void bits(Checks checks) {
        SharedBlockStore store = new SharedBlockStore();
        checks.due("no bits", 0, store.count(2));
        Stores.append(store, 0, 60);
        checks.due("bits 62, 31, 60", 3, store.count(2));
        Stores.append(store, 0, 61);
        checks.due("bits 63, 31, 61 more", 5, store.count(2));
        Stores.append(store, 0, 60);
        checks.due("a known content", 5, store.count(2));
    }

    /** "3: the number of the latest saving.": not of one that failed. */
    private static void latestSaving(Checks checks) {
        SharedBlockStore store = new SharedBlockStore();
        checks.due("before the first", 0, store.count(3));
        store.save();
        store.save();
        checks.due("after the second", 2, store.count(3));
        store.crashAfter(6);
        store.save();
        store.recover();
        checks.due("after one that failed", 2, store.count(3));
    }

    /** "NONE for another what." */
    private static void others(Checks checks) {
        SharedBlockStore store = new SharedBlockStore();
        Stores.append(store, 0, 60);
        for (int what : new int[] {-1, 4, Integer.MIN_VALUE, Integer.MAX_VALUE}) {
            checks.due("count(" + what + ")", SharedBlockStore.NONE, store.count(what));
        }
    }

    /** "NONE for another what. IllegalState.": DOWN comes first for every what. */
    private static void refusesWhenDown(Checks checks) {
        SharedBlockStore down = Stores.down();
        for (int what = -1; what < 5; what++) {
            int asked = what;
            checks.illegalState("count when down", () -> down.count(asked));
        }
    }
}
