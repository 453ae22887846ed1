import java.util.ArrayDeque;
import java.util.ArrayList;
import java.util.Comparator;
import java.util.Deque;
import java.util.List;

/**
 * The document's words in the plainest form: a piece is null or the number of its block, and all else is counted from
 * the pieces whenever it is asked for. It takes valid and wrong inputs as ExtentVolume does.
 */
final class Model {
    private static final int NONE = -1;
    private static final int FULL = -2;

    private record State(Integer[][] blocks, int[] ints) {
        State copy() {
            Integer[][] copied = new Integer[8][];
            for (int file = 0; file < 8; file++) {
                copied[file] = blocks[file].clone();
            }
            return new State(copied, ints.clone());
        }
    }

    private record Extent(int first, int length) {
    }

    private State now = new State(new Integer[8][64], new int[192]);
    private final Deque<State> past = new ArrayDeque<>();

    /** How often each way of placing was taken, so that a test can see that its runs reach all of them. */
    int near = 0;
    int best = 0;
    int longest = 0;

    int write(int file, int from, int n, int v) {
        if (!valid(file, from, n)) {
            return NONE;
        }
        List<List<Integer>> rows = new ArrayList<>();
        int placed = 0;
        boolean inRow = false;
        for (int piece = from; piece < from + n; piece++) {
            Integer block = now.blocks[file][piece];
            boolean other = block == null || uses(block) > 1;
            if (other && !inRow) {
                rows.add(new ArrayList<>());
            }
            if (other) {
                rows.get(rows.size() - 1).add(piece);
                placed++;
            }
            inRow = other;
        }
        if (room(3, 1) < placed) {
            return FULL;
        }
        remember();
        for (List<Integer> row : rows) {
            int first = row.get(0);
            place(file, row, first == 0 ? null : now.blocks[file][first - 1]);
        }
        for (int i = 0; i < n; i++) {
            now.ints[now.blocks[file][from + i]] = v + i;
        }
        return placed;
    }

    int read(int file, int piece) {
        int block = place(file, piece);
        return block == NONE ? 0 : now.ints[block];
    }

    int punch(int file, int from, int n) {
        if (!valid(file, from, n)) {
            return NONE;
        }
        remember();
        int before = room(3, 1);
        for (int piece = from; piece < from + n; piece++) {
            now.blocks[file][piece] = null;
        }
        return room(3, 1) - before;
    }

    int share(int file, int to, int from, int n) {
        if (!valid(file, from, n) || !valid(to, from, n) || file == to) {
            return NONE;
        }
        remember();
        int count = 0;
        for (int piece = from; piece < from + n; piece++) {
            now.blocks[to][piece] = now.blocks[file][piece];
            count += now.blocks[to][piece] == null ? 0 : 1;
        }
        return count;
    }

    int pack(int file) {
        if (!valid(file, 0, 1)) {
            return NONE;
        }
        List<List<Integer>> rows = new ArrayList<>();
        rows.add(new ArrayList<>());
        int count = 0;
        for (int piece = 0; piece < 64; piece++) {
            if (now.blocks[file][piece] == null) {
                rows.add(new ArrayList<>());
            } else {
                rows.get(rows.size() - 1).add(piece);
                count++;
            }
        }
        if (room(3, 1) < count) {
            return FULL;
        }
        remember();
        for (List<Integer> row : rows) {
            place(file, row, null);
        }
        return extents(file);
    }

    boolean back(int n) {
        if (n < 1 || n > past.size()) {
            return false;
        }
        for (int i = 0; i < n; i++) {
            now = past.removeLast();
        }
        return true;
    }

    int changes() {
        return past.size();
    }

    int settle() {
        int count = past.size();
        past.clear();
        return count;
    }

    int place(int file, int piece) {
        return !valid(file, piece, 1) || now.blocks[file][piece] == null ? NONE : now.blocks[file][piece];
    }

    int uses(int block) {
        if (block < 0 || block > 191) {
            return NONE;
        }
        int count = 0;
        for (Integer[] pieces : now.blocks) {
            for (Integer at : pieces) {
                count += at != null && at == block ? 1 : 0;
            }
        }
        return count;
    }

    int extents(int file) {
        if (!valid(file, 0, 1)) {
            return NONE;
        }
        int count = 0;
        for (int piece = 0; piece < 64; piece++) {
            Integer block = now.blocks[file][piece];
            Integer before = piece == 0 ? null : now.blocks[file][piece - 1];
            boolean goesOn = block != null && before != null && block == before + 1 && block / 64 == before / 64;
            count += block != null && !goesOn ? 1 : 0;
        }
        return count;
    }

    int free(int group, int k, int what) {
        if (group < 0 || group > 2 || what < 0 || what > 1) {
            return NONE;
        }
        List<Extent> sorted = freeExtents(group);
        sorted.sort(Comparator.comparingInt(Extent::length).thenComparingInt(Extent::first));
        if (k < 0 || k >= sorted.size()) {
            return NONE;
        }
        return what == 0 ? sorted.get(k).first : sorted.get(k).length;
    }

    int room(int group, int what) {
        if (group < 0 || group > 3 || what < 0 || what > 1) {
            return NONE;
        }
        int sum = 0;
        for (int g = 0; g < 3; g++) {
            if (group == 3 || group == g) {
                for (Extent extent : freeExtents(g)) {
                    sum += what == 0 ? 1 : extent.length;
                }
            }
        }
        return sum;
    }

    private boolean valid(int file, int from, int n) {
        return file >= 0 && file <= 7 && from >= 0 && n >= 1 && (long) from + n <= 64;
    }

    private void remember() {
        past.addLast(now.copy());
        if (past.size() > 4) {
            past.removeFirst();
        }
    }

    private List<Extent> freeExtents(int group) {
        boolean[] used = new boolean[192];
        for (Integer[] pieces : now.blocks) {
            for (Integer at : pieces) {
                if (at != null) {
                    used[at] = true;
                }
            }
        }
        List<Extent> extents = new ArrayList<>();
        int length = 0;
        for (int block = group * 64; block < group * 64 + 64; block++) {
            length = used[block] ? 0 : length + 1;
            boolean last = block == group * 64 + 63 || used[block + 1];
            if (length > 0 && last) {
                extents.add(new Extent(block - length + 1, length));
            }
        }
        return extents;
    }

    private void place(int file, List<Integer> row, Integer before) {
        int done = 0;
        Integer last = before;
        while (done < row.size()) {
            Extent chosen = choose(file, row.size() - done, last);
            for (int i = 0; i < chosen.length; i++) {
                int piece = row.get(done);
                Integer old = now.blocks[file][piece];
                last = chosen.first + i;
                now.ints[last] = old == null ? 0 : now.ints[old];
                now.blocks[file][piece] = last;
                done++;
            }
        }
    }

    /** Where the next pieces go: s and m of the document. */
    private Extent choose(int file, int left, Integer last) {
        if (last != null && last % 64 != 63) {
            int run = 0;
            while (run < left && last + 1 + run < (last / 64 + 1) * 64 && uses(last + 1 + run) == 0) {
                run++;
            }
            if (run > 0) {
                near++;
                return new Extent(last + 1, run);
            }
        }
        for (int i = 0; i < 3; i++) {
            List<Extent> fitting = freeExtents((file + i) % 3);
            fitting.removeIf(extent -> extent.length < left);
            if (!fitting.isEmpty()) {
                fitting.sort(Comparator.comparingInt(Extent::length).thenComparingInt(Extent::first));
                best++;
                return new Extent(fitting.get(0).first, left);
            }
        }
        List<Extent> all = new ArrayList<>();
        for (int group = 0; group < 3; group++) {
            all.addAll(freeExtents(group));
        }
        all.sort(Comparator.comparingInt((Extent extent) -> -extent.length).thenComparingInt(Extent::first));
        longest++;
        return all.get(0);
    }
}
