/** The words before "Terms": what the store is for, told by one store from its first block to a power failure. */
final class WhatItIsTest {
    private final Checks checks = new Checks();
    private final SharedBlockStore store = new SharedBlockStore();

    public static void main(String[] args) {
        WhatItIsTest test = new WhatItIsTest();
        test.keepsEachContentOnce();
        test.findsItBehindTheGate();
        test.givesBackWhatNobodyHas();
        test.savesInTwoPlaces();
        test.checks.end();
    }

    /** "A store of files made of blocks, each content of which is kept once:" */
    private void keepsEachContentOnce() {
        checks.due("block of file 0", 0, Stores.append(store, 0, 60));
        checks.due("next block of file 0", 1, Stores.append(store, 0, 61));
        checks.due("the first content in file 1", 0, Stores.append(store, 1, 60));
        checks.due("the second content in file 1", 1, Stores.append(store, 1, 61));
        checks.due("blocks of both", 4, store.blocks(0) + store.blocks(1));
        checks.due("used", 2, store.count(0));
        checks.due("written", 2, store.writes());
        checks.due("read in file 0", 61, store.word(0, 1, 3));
        checks.due("read in file 1", 61, store.word(1, 1, 3));
    }

    /** "found again by an index behind a gate," */
    private void findsItBehindTheGate() {
        int probes = store.probes();
        Stores.feed(store, 1, 2, 3, 60);
        checks.due("the gate lets it", true, store.passes());
        checks.due("the index has it", 0, store.find());
        checks.due("one probe", probes + 1, store.probes());
        store.drop();
        Stores.feed(store, 1, 2, 3, 30);
        checks.due("the gate stops it", false, store.passes());
        checks.due("its block", 2, store.append(2));
        checks.due("no more probes", probes + 1, store.probes());
    }

    /** "given back when nobody has it," */
    private void givesBackWhatNobodyHas() {
        checks.due("cut of file 0, all of it in file 1", 0, store.cut(0, 0));
        checks.due("cut of file 2", 1, store.cut(2, 0));
        checks.due("used", 2, store.count(0));
        checks.due("its block for another content", 2, Stores.append(store, 2, 33));
    }

    /** "saved in two places in turn, and found as it was saved when the power failed." */
    private void savesInTwoPlaces() {
        for (int number = 1; number <= 4; number++) {
            checks.due("saving", number, store.save());
            String file1 = Stores.row(store, 1);
            String file2 = Stores.row(store, 2);
            store.cut(1, 1);
            Stores.append(store, 2, 40 + number);
            store.crashAfter(number + 2);
            checks.due("a saving that the power fails in", SharedBlockStore.DOWN, store.save());
            checks.due("recover", number, store.recover());
            checks.dueText("file 1", file1, Stores.row(store, 1));
            checks.dueText("file 2", file2, Stores.row(store, 2));
            checks.due("a word of file 2", 33, store.word(2, 0, 3));
            Stores.append(store, 2, 50 + number);
        }
    }
}
