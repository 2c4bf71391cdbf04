/** Promises 2 and 3. */
final class StageTest {
    public static void main(String[] args) {
        Checks checks = new Checks();
        feeds(checks);
        drops(checks);
        refusesWhenDown(checks);
        checks.end();
    }

    private static void feeds(Checks checks) {
        SharedBlockStore store = new SharedBlockStore();
        checks.due("first feed", 1, store.feed(Integer.MIN_VALUE));
        checks.due("second feed", 2, store.feed(Integer.MAX_VALUE));
        checks.due("third feed", 3, store.feed(0));
        checks.due("fourth feed", 4, store.feed(-1));
        checks.illegalState("fifth feed", () -> store.feed(9));
        checks.due("append", 0, store.append(3));
        checks.due("word 0", Integer.MIN_VALUE, store.word(3, 0, 0));
        checks.due("word 1", Integer.MAX_VALUE, store.word(3, 0, 1));
        checks.due("word 2", 0, store.word(3, 0, 2));
        checks.due("word 3", -1, store.word(3, 0, 3));
        checks.due("feed after append", 1, store.feed(5));
    }

    private static void drops(Checks checks) {
        SharedBlockStore store = new SharedBlockStore();
        checks.due("drop of nothing", 0, store.drop());
        store.feed(1);
        store.feed(2);
        checks.due("drop of two", 2, store.drop());
        checks.due("drop again", 0, store.drop());
        Stores.feed(store, 5, 6, 7, 8);
        checks.due("drop of four", 4, store.drop());
        checks.due("feed after drop", 1, store.feed(4));
        store.feed(3);
        store.feed(2);
        store.feed(1);
        store.append(0);
        checks.due("word 0 of what was fed after drop", 4, store.word(0, 0, 0));
    }

    private static void refusesWhenDown(Checks checks) {
        SharedBlockStore store = Stores.down();
        checks.illegalState("feed when down", () -> store.feed(1));
        checks.illegalState("drop when down", store::drop);
    }
}
