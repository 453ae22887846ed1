public final class ExtentVolume {
    public static final int NONE = -1, FULL = -2;

    private static final int GROUPS = 3;
    private static final int GROUP_BLOCKS = 64;
    private static final int BLOCKS = GROUPS * GROUP_BLOCKS;
    private static final int FILES = 8;
    private static final int PIECES = 64;
    private static final int ALL_PIECES = FILES * PIECES;
    private static final int KEPT = 4;
    private static final int KEPT_PIECES = KEPT * ALL_PIECES;
    private static final int KEPT_BLOCKS = KEPT * BLOCKS;

    // Piece p of file f stands at index f * PIECES + p; NONE is a hole.
    private final int[] blockOf = new int[ALL_PIECES];
    private final int[] intOf = new int[BLOCKS];
    private final int[] usesOf = new int[BLOCKS];

    // A ring of the states before the latest changes. The uses aren't kept: they follow from the pieces.
    private final int[] keptBlockOf = new int[KEPT_PIECES];
    private final int[] keptIntOf = new int[KEPT_BLOCKS];
    private int kept = 0;
    private int nextSlot = 0;

    public ExtentVolume() {
        for (int i = 0; i < ALL_PIECES; i++) {
            blockOf[i] = NONE;
        }
    }

    public int write(int file, int from, int n, int v) {
        if (!isRange(file, from, n)) {
            return NONE;
        }
        int needed = countNotAlone(file, from, n);
        if (needed > countFreeBlocks(0, BLOCKS)) {
            return FULL;
        }
        keepState();
        int end = from + n;
        for (int piece = from; piece < end; piece++) {
            // A placed piece is alone at its block, so a row is not found a second time.
            int row = rowNotAlone(file, piece, end);
            if (row > 0) {
                placeRow(file, piece, row);
            }
        }
        setInts(file, from, n, v);
        return needed;
    }

    public int read(int file, int piece) {
        int block = place(file, piece);
        return block == NONE ? 0 : intOf[block];
    }

    public int punch(int file, int from, int n) {
        if (!isRange(file, from, n)) {
            return NONE;
        }
        keepState();
        int freed = 0;
        for (int i = 0; i < n; i++) {
            int index = file * PIECES + from + i;
            int block = blockOf[index];
            setBlock(index, NONE);
            if (block != NONE && usesOf[block] == 0) {
                freed++;
            }
        }
        return freed;
    }

    public int share(int file, int to, int from, int n) {
        if (!isRange(file, from, n) || !isFile(to) || file == to) {
            return NONE;
        }
        keepState();
        int shared = 0;
        for (int i = 0; i < n; i++) {
            int block = blockOf[file * PIECES + from + i];
            setBlock(to * PIECES + from + i, block);
            if (block != NONE) {
                shared++;
            }
        }
        return shared;
    }

    public int pack(int file) {
        if (!isFile(file)) {
            return NONE;
        }
        if (countPlaced(file) > countFreeBlocks(0, BLOCKS)) {
            return FULL;
        }
        keepState();
        for (int piece = 0; piece < PIECES; piece++) {
            int row = rowStartingAt(file, piece);
            if (row > 0) {
                placeRow(file, piece, row);
            }
        }
        return extents(file);
    }

    public boolean back(int n) {
        if (n < 1 || n > kept) {
            return false;
        }
        nextSlot = (nextSlot + KEPT - n) % KEPT;
        kept -= n;
        restoreState(nextSlot);
        return true;
    }

    public int changes() {
        return kept;
    }

    public int settle() {
        int before = kept;
        kept = 0;
        return before;
    }

    public int place(int file, int piece) {
        if (!isRange(file, piece, 1)) {
            return NONE;
        }
        return blockOf[file * PIECES + piece];
    }

    public int uses(int block) {
        if (block < 0 || block >= BLOCKS) {
            return NONE;
        }
        return usesOf[block];
    }

    public int extents(int file) {
        if (!isFile(file)) {
            return NONE;
        }
        int count = 0;
        int before = NONE;
        for (int piece = 0; piece < PIECES; piece++) {
            int block = blockOf[file * PIECES + piece];
            if (block != NONE && (before == NONE || block != nextInGroup(before))) {
                count++;
            }
            before = block;
        }
        return count;
    }

    public int free(int group, int k, int what) {
        if (group < 0 || group >= GROUPS || what < 0 || what > 1) {
            return NONE;
        }
        int first = group * GROUP_BLOCKS;
        for (int block = first; block < first + GROUP_BLOCKS; block++) {
            int length = extentLength(block);
            if (length > 0 && countSortedBefore(group, block, length) == k) {
                return what == 0 ? block : length;
            }
        }
        return NONE;
    }

    public int room(int group, int what) {
        if (group < 0 || group > GROUPS || what < 0 || what > 1) {
            return NONE;
        }
        int first = group == GROUPS ? 0 : group * GROUP_BLOCKS;
        int end = group == GROUPS ? BLOCKS : first + GROUP_BLOCKS;
        return what == 0 ? countFreeExtents(first, end) : countFreeBlocks(first, end);
    }

    private boolean isFile(int file) {
        return file >= 0 && file < FILES;
    }

    private boolean isRange(int file, int from, int n) {
        // from is bounded first, so that PIECES - from can't wrap.
        return isFile(file) && from >= 0 && from < PIECES && n >= 1 && n <= PIECES - from;
    }

    private boolean isAlone(int file, int piece) {
        int block = blockOf[file * PIECES + piece];
        return block != NONE && usesOf[block] == 1;
    }

    private int countNotAlone(int file, int from, int n) {
        int count = 0;
        for (int piece = from; piece < from + n; piece++) {
            if (!isAlone(file, piece)) {
                count++;
            }
        }
        return count;
    }

    private int rowNotAlone(int file, int from, int end) {
        int piece = from;
        while (piece < end && !isAlone(file, piece)) {
            piece++;
        }
        return piece - from;
    }

    private int countPlaced(int file) {
        int count = 0;
        for (int piece = 0; piece < PIECES; piece++) {
            if (blockOf[file * PIECES + piece] != NONE) {
                count++;
            }
        }
        return count;
    }

    // The length of the row of pieces that are no holes; 0 if none begins at this piece.
    private int rowStartingAt(int file, int first) {
        if (first > 0 && blockOf[file * PIECES + first - 1] != NONE) {
            return 0;
        }
        int piece = first;
        while (piece < PIECES && blockOf[file * PIECES + piece] != NONE) {
            piece++;
        }
        return piece - first;
    }

    private void placeRow(int file, int from, int n) {
        int end = from + n;
        int piece = from;
        // Each round places one piece at least, so n rounds are enough.
        for (int round = 0; round < n && piece < end; round++) {
            int left = end - piece;
            int start = nearBlock(file, piece);
            if (start == NONE) {
                start = bestBlock(file, left);
            }
            if (start == NONE) {
                start = longestBlock();
            }
            if (start == NONE) {
                return;
            }
            // The same bound serves all three: BEST has room for all that are left, LONGEST for fewer.
            int run = freeRun(start);
            int m = run < left ? run : left;
            movePieces(file, piece, m, start);
            piece += m;
        }
    }

    // A row of pack begins behind a hole, so its first piece has no near block, as the document asks.
    private int nearBlock(int file, int piece) {
        if (piece == 0) {
            return NONE;
        }
        int before = blockOf[file * PIECES + piece - 1];
        if (before == NONE) {
            return NONE;
        }
        int block = nextInGroup(before);
        return block != NONE && usesOf[block] == 0 ? block : NONE;
    }

    private int bestBlock(int file, int left) {
        for (int i = 0; i < GROUPS; i++) {
            int start = shortestFit((file + i) % GROUPS, left);
            if (start != NONE) {
                return start;
            }
        }
        return NONE;
    }

    private int shortestFit(int group, int left) {
        int found = NONE;
        int shortest = GROUP_BLOCKS + 1;
        int first = group * GROUP_BLOCKS;
        for (int block = first; block < first + GROUP_BLOCKS; block++) {
            int length = extentLength(block);
            if (length >= left && length < shortest) {
                found = block;
                shortest = length;
            }
        }
        return found;
    }

    private int longestBlock() {
        int found = NONE;
        int longest = 0;
        for (int block = 0; block < BLOCKS; block++) {
            int length = extentLength(block);
            if (length > longest) {
                found = block;
                longest = length;
            }
        }
        return found;
    }

    private void movePieces(int file, int from, int n, int start) {
        for (int i = 0; i < n; i++) {
            int index = file * PIECES + from + i;
            int old = blockOf[index];
            if (old != NONE) {
                intOf[start + i] = intOf[old];
            }
            setBlock(index, start + i);
        }
    }

    private void setBlock(int index, int block) {
        int old = blockOf[index];
        if (old != NONE) {
            usesOf[old]--;
        }
        if (block != NONE) {
            usesOf[block]++;
        }
        blockOf[index] = block;
    }

    private void setInts(int file, int from, int n, int v) {
        for (int i = 0; i < n; i++) {
            int block = blockOf[file * PIECES + from + i];
            if (block != NONE) {
                intOf[block] = v + i;
            }
        }
    }

    private int nextInGroup(int block) {
        return block % GROUP_BLOCKS == GROUP_BLOCKS - 1 ? NONE : block + 1;
    }

    // How many blocks are free in a row from this one on, up to the end of its group.
    private int freeRun(int start) {
        int end = (start / GROUP_BLOCKS + 1) * GROUP_BLOCKS;
        int block = start;
        while (block < end && usesOf[block] == 0) {
            block++;
        }
        return block - start;
    }

    // The length of the free extent whose first block this is; 0 if none begins here.
    private int extentLength(int block) {
        if (block % GROUP_BLOCKS != 0 && usesOf[block - 1] == 0) {
            return 0;
        }
        return freeRun(block);
    }

    private int countSortedBefore(int group, int start, int length) {
        int count = 0;
        int first = group * GROUP_BLOCKS;
        for (int block = first; block < first + GROUP_BLOCKS; block++) {
            int other = extentLength(block);
            if (other > 0 && (other < length || other == length && block < start)) {
                count++;
            }
        }
        return count;
    }

    private int countFreeExtents(int first, int end) {
        int count = 0;
        for (int block = first; block < end; block++) {
            if (extentLength(block) > 0) {
                count++;
            }
        }
        return count;
    }

    private int countFreeBlocks(int first, int end) {
        int count = 0;
        for (int block = first; block < end; block++) {
            if (usesOf[block] == 0) {
                count++;
            }
        }
        return count;
    }

    private void keepState() {
        for (int i = 0; i < ALL_PIECES; i++) {
            keptBlockOf[nextSlot * ALL_PIECES + i] = blockOf[i];
        }
        for (int block = 0; block < BLOCKS; block++) {
            keptIntOf[nextSlot * BLOCKS + block] = intOf[block];
        }
        nextSlot = (nextSlot + 1) % KEPT;
        if (kept < KEPT) {
            kept++;
        }
    }

    private void restoreState(int slot) {
        for (int block = 0; block < BLOCKS; block++) {
            intOf[block] = keptIntOf[slot * BLOCKS + block];
        }
        for (int i = 0; i < ALL_PIECES; i++) {
            setBlock(i, keptBlockOf[slot * ALL_PIECES + i]);
        }
    }
}
