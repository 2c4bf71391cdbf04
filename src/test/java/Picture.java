import java.util.ArrayList;
import java.util.List;

/**
 * All that calls can tell of a store, line by line: stores that are alike have equal pictures. Taking it
 * uses the store up, as its stage is appended, it is saved until the power fails, and recovered at last.
 */
final class Picture {
    private final SharedBlockStore store;
    private final List<String> lines = new ArrayList<>();

    private Picture(SharedBlockStore store) {
        this.store = store;
    }

    static void dueAlike(Checks checks, String what, SharedBlockStore want, SharedBlockStore got) {
        List<String> wanted = linesOf(want);
        List<String> seen = linesOf(got);
        int shorter = Math.min(wanted.size(), seen.size());
        for (int i = 0; i < shorter; i++) {
            checks.dueText(what + ": " + wanted.get(i), wanted.get(i), seen.get(i));
        }
        checks.due(what + ": lines", wanted.size(), seen.size());
    }

    private static List<String> linesOf(SharedBlockStore store) {
        Picture picture = new Picture(store);
        picture.take();
        return picture.lines;
    }

    private void take() {
        lines.add("down " + store.down() + ", probes " + store.probes() + ", writes " + store.writes());
        if (!store.down()) {
            countsCellsAndFiles();
            stage();
            power();
        }
        lines.add("recover " + store.recover());
        countsCellsAndFiles();
    }

    private void countsCellsAndFiles() {
        for (int what = 0; what < 4; what++) {
            lines.add("count(" + what + ") " + store.count(what));
        }
        lines.add("cells " + Stores.cells(store, 0, 64));
        for (int file = 0; file < 6; file++) {
            lines.add("file " + file + ": " + Stores.row(store, file));
            for (int b = 0; b < store.blocks(file); b++) {
                lines.add("words " + words(file, b));
            }
        }
    }

    private String words(int file, int b) {
        return store.word(file, b, 0) + " " + store.word(file, b, 1) + " " + store.word(file, b, 2) + " "
            + store.word(file, b, 3);
    }

    /** The stage's words are seen when it is filled up and appended. */
    private void stage() {
        for (int i = 0; i < 4; i++) {
            lines.add("feed " + Checks.answer(() -> store.feed(900)));
        }
        lines.add("passes " + store.passes() + ", find " + store.find());
        lines.add("append " + Checks.answer(() -> store.append(0)));
        if (!store.down()) {
            lines.add("words " + words(0, store.blocks(0) - 1));
        }
    }

    /** How many writes are left is seen when they are used up. */
    private void power() {
        for (int i = 0; i < 3; i++) {
            lines.add("save " + Checks.answer(store::save) + ", writes " + store.writes());
        }
    }
}
