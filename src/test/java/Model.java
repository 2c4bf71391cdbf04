import java.util.ArrayList;
import java.util.Arrays;
import java.util.List;
import java.util.TreeMap;
import java.util.TreeSet;

/**
 * A second telling of the document, word by word and without care for speed, to hold the class against.
 * It keeps contents as lists, what was saved as whole copies, and reckons fingerprints in long numbers.
 */
final class Model {
    private static final int NONE = -1;
    private static final int DOWN = -2;

    private List<Integer> stage = new ArrayList<>();
    private List<List<Integer>> files = emptyFiles();
    private List<List<Integer>> saved = emptyFiles();
    private int savedNumber = 0;
    private final TreeMap<Integer, List<Integer>> disk = new TreeMap<>();
    private final TreeMap<Integer, Integer> cells = new TreeMap<>();
    private final TreeSet<Integer> gate = new TreeSet<>();
    private int writesUntilFailure = Integer.MAX_VALUE;
    private boolean isDown = false;
    private int probeCount = 0;
    private int writeCount = 0;

    private static List<List<Integer>> emptyFiles() {
        List<List<Integer>> rows = new ArrayList<>();
        for (int i = 0; i < 6; i++) {
            rows.add(new ArrayList<>());
        }
        return rows;
    }

    private static List<List<Integer>> copied(List<List<Integer>> rows) {
        List<List<Integer>> copy = new ArrayList<>();
        for (List<Integer> row : rows) {
            copy.add(new ArrayList<>(row));
        }
        return copy;
    }

    int feed(int word) {
        up();
        state(stage.size() < 4);
        stage.add(word);
        return stage.size();
    }

    int drop() {
        up();
        int had = stage.size();
        stage = new ArrayList<>();
        return had;
    }

    int append(int file) {
        up();
        bounds(file, 6);
        state(stage.size() == 4);
        state(files.get(file).size() < 12);
        Integer block = gate.containsAll(bits(stage)) ? lookUp(stage) : null;
        if (block == null) {
            TreeSet<Integer> free = new TreeSet<>();
            for (int b = 0; b < 40; b++) {
                free.add(b);
            }
            free.removeAll(used());
            if (free.isEmpty()) {
                return NONE;
            }
            if (!write()) {
                return DOWN;
            }
            block = free.first();
            disk.put(block, stage);
            putIn(block);
            gate.addAll(bits(stage));
        }
        files.get(file).add(block);
        stage = new ArrayList<>();
        return block;
    }

    int cut(int file, int from) {
        up();
        bounds(file, 6);
        bounds(from, files.get(file).size() + 1);
        TreeSet<Integer> before = used();
        files.set(file, new ArrayList<>(files.get(file).subList(0, from)));
        return takeOutSince(before);
    }

    int copy(int file, int from) {
        up();
        bounds(file, 6);
        bounds(from, 6);
        TreeSet<Integer> before = used();
        files.set(file, new ArrayList<>(files.get(from)));
        return takeOutSince(before);
    }

    int blocks(int file) {
        up();
        bounds(file, 6);
        return files.get(file).size();
    }

    int block(int file, int b) {
        up();
        bounds(file, 6);
        bounds(b, files.get(file).size());
        return files.get(file).get(b);
    }

    int word(int file, int b, int i) {
        int block = block(file, b);
        bounds(i, 4);
        return disk.get(block).get(i);
    }

    int find() {
        up();
        state(stage.size() == 4);
        Integer block = lookUp(stage);
        return block == null ? NONE : block;
    }

    boolean passes() {
        up();
        state(stage.size() == 4);
        return gate.containsAll(bits(stage));
    }

    int cell(int c) {
        up();
        return cells.getOrDefault(c, NONE);
    }

    int count(int what) {
        up();
        TreeSet<Integer> unheld = used();
        for (List<Integer> row : files) {
            unheld.removeAll(row);
        }
        int[] counts = {used().size(), unheld.size(), gate.size(), savedNumber};
        return what >= 0 && what < counts.length ? counts[what] : NONE;
    }

    void refresh() {
        up();
        makeAnew();
    }

    int save() {
        up();
        for (int i = 0; i < 7; i++) {
            if (!write()) {
                return DOWN;
            }
        }
        TreeSet<Integer> before = used();
        saved = copied(files);
        savedNumber++;
        takeOutSince(before);
        return savedNumber;
    }

    void crashAfter(int n) {
        if (n < -1 || n > 1000) {
            throw new IllegalArgumentException();
        }
        writesUntilFailure = n == NONE ? Integer.MAX_VALUE : n;
    }

    boolean down() {
        return isDown;
    }

    int recover() {
        isDown = false;
        writesUntilFailure = Integer.MAX_VALUE;
        files = copied(saved);
        stage = new ArrayList<>();
        makeAnew();
        return savedNumber;
    }

    int probes() {
        return probeCount;
    }

    int writes() {
        return writeCount;
    }

    private void up() {
        state(!isDown);
    }

    private static void state(boolean fine) {
        if (!fine) {
            throw new IllegalStateException();
        }
    }

    private static void bounds(int number, int end) {
        if (number < 0 || number >= end) {
            throw new IndexOutOfBoundsException();
        }
    }

    private boolean write() {
        if (writesUntilFailure == 0) {
            isDown = true;
            return false;
        }
        writesUntilFailure--;
        writeCount++;
        return true;
    }

    private TreeSet<Integer> used() {
        TreeSet<Integer> used = new TreeSet<>();
        files.forEach(used::addAll);
        saved.forEach(used::addAll);
        return used;
    }

    private static int fingerprint(List<Integer> content) {
        long f = 17;
        for (int word : content) {
            f = (f * 31 + word) & 0xffffffffL;
            f = f ^ (f / 32768);
        }
        return (int) (f % 256);
    }

    private static int home(List<Integer> content) {
        return fingerprint(content) % 64;
    }

    private static List<Integer> bits(List<Integer> content) {
        int f = fingerprint(content);
        int mixed = 0;
        for (int word : content) {
            mixed ^= word;
        }
        return Arrays.asList(f % 64, f / 4, mixed & 63);
    }

    private Integer lookUp(List<Integer> content) {
        int at = home(content);
        probeCount++;
        while (cells.containsKey(at) && !disk.get(cells.get(at)).equals(content)) {
            at = (at + 1) % 64;
            probeCount++;
        }
        return cells.get(at);
    }

    private void putIn(int block) {
        int at = home(disk.get(block));
        while (cells.containsKey(at)) {
            at = (at + 1) % 64;
        }
        cells.put(at, block);
    }

    private int takeOutSince(TreeSet<Integer> before) {
        before.removeAll(used());
        for (int block : before) {
            int at = 0;
            while (cells.getOrDefault(at, NONE) != block) {
                at++;
            }
            cells.remove(at);
            for (int behind = (at + 1) % 64; cells.containsKey(behind); behind = (behind + 1) % 64) {
                putIn(cells.remove(behind));
            }
        }
        return before.size();
    }

    private void makeAnew() {
        cells.clear();
        gate.clear();
        for (int block : used()) {
            putIn(block);
            gate.addAll(bits(disk.get(block)));
        }
    }
}
