/** Terms: the stage. Promises 2 and 3. */
final class StageTest {
    public static void main(String[] args) {
        Checks checks = new Checks();
        feedsUpToFour(checks);
        feedsAnyWord(checks);
        refusesAFifth(checks);
        drops(checks);
        dropsAndFeedsAnew(checks);
        refusesWhenDown(checks);
        checks.end();
    }

    /** "The STAGE has at most four words." and "Appends a word to the stage: how many it has." */
    private static void feedsUpToFour(Checks checks) {
        SharedBlockStore store = new SharedBlockStore();
        for (int n = 1; n <= 4; n++) {
            checks.due("feed", n, store.feed(7));
        }
        store.append(3);
        checks.due("feed after append", 1, store.feed(5));
    }

    /** "Appends a word to the stage": whatever number it is, behind the others. */
    private static void feedsAnyWord(Checks checks) {
        SharedBlockStore store = new SharedBlockStore();
        int[] words = {Integer.MIN_VALUE, Integer.MAX_VALUE, 0, -1};
        for (int word : words) {
            store.feed(word);
        }
        checks.due("append", 0, store.append(3));
        for (int i = 0; i < 4; i++) {
            checks.due("word " + i, words[i], store.word(3, 0, i));
        }
    }

    /** "or it has four." */
    private static void refusesAFifth(Checks checks) {
        SharedBlockStore store = new SharedBlockStore();
        Stores.feed(store, 1, 2, 3, 4);
        checks.illegalState("a fifth word", () -> store.feed(9));
        checks.illegalState("a fifth word again", () -> store.feed(9));
        store.append(0);
        for (int i = 0; i < 4; i++) {
            checks.due("word " + i, i + 1, store.word(0, 0, i));
        }
    }

    /** "The stage is empty; how many words it had. IllegalState." */
    private static void drops(Checks checks) {
        SharedBlockStore store = new SharedBlockStore();
        for (int n = 0; n <= 4; n++) {
            for (int i = 0; i < n; i++) {
                store.feed(i);
            }
            checks.due("drop of " + n, n, store.drop());
            checks.due("drop of nothing", 0, store.drop());
        }
    }

    /** "The stage is empty": nothing of the words before is left in it. */
    private static void dropsAndFeedsAnew(Checks checks) {
        SharedBlockStore store = new SharedBlockStore();
        Stores.feed(store, 5, 6, 7, 8);
        store.drop();
        checks.illegalState("append of nothing", () -> store.append(0));
        Stores.feed(store, 4, 3, 2, 1);
        store.append(0);
        for (int i = 0; i < 4; i++) {
            checks.due("word " + i, 4 - i, store.word(0, 0, i));
        }
    }

    /** "IllegalState: DOWN, or it has four." for feed, "IllegalState." for drop. */
    private static void refusesWhenDown(Checks checks) {
        SharedBlockStore store = Stores.down();
        checks.illegalState("feed when down", () -> store.feed(1));
        checks.illegalState("drop when down", store::drop);
    }
}
