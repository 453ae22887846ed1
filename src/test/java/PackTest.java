/** Promise 6: pack. */
public final class PackTest {
    private static final int NONE = ExtentVolume.NONE;
    private static final int FULL = ExtentVolume.FULL;

    public static void main(String[] args) {
        scatteredPiecesComeTogether();
        rowsEndAtHoles();
        laterRowsUseBlocksLeftByEarlierOnes();
        nearBlockThatBecameFree();
        bestExtentThatBecameFree();
        sharedPiecesGetTheirOwnBlocks();
        fullChangesNothing();
        emptyAndWrongFiles();
        Check.end();
    }

    private static void scatteredPiecesComeTogether() {
        ExtentVolume x = new ExtentVolume();
        for (int i = 0; i < 4; i++) {
            x.write(0, i, 1, 10 + i);
            x.write(3, i, 1, 30 + i);
        }
        Check.places("scattered", x, 0, 0, 0, 2, 4, 6);
        Check.due("extents(0)", x.extents(0), 4);
        Check.due("pack(0)", x.pack(0), 1);
        Check.places("packed", x, 0, 0, 8, 9, 10, 11, NONE);
        Check.ints("packed", x, 0, 0, 10, 11, 12, 13, 0);
        Check.ints("the other file", x, 3, 0, 30, 31, 32, 33);
        Check.freeExtents("packed", x, 0, 0, 1, 2, 1, 4, 1, 6, 1, 12, 52);
    }

    private static void rowsEndAtHoles() {
        ExtentVolume x = new ExtentVolume();
        x.write(0, 0, 6, 10);
        x.punch(0, 2, 1);
        x.write(3, 0, 1, 30);
        Check.places("before", x, 3, 0, 2);
        // The row 0..1 goes to the one free extent, from 6 on, and leaves too few blocks for the row 3..5.
        Check.due("pack(0)", x.pack(0), 2);
        Check.places("packed", x, 0, 0, 6, 7, NONE, 8, 9, 10);
        Check.ints("packed", x, 0, 0, 10, 11, 0, 13, 14, 15);
    }

    private static void laterRowsUseBlocksLeftByEarlierOnes() {
        ExtentVolume x = new ExtentVolume();
        x.write(0, 0, 3, 10);
        x.write(3, 0, 1, 30);
        x.write(0, 5, 2, 15);
        // Row 0..2 leaves blocks 0..2, which then have the best size for row 5..6.
        Check.due("pack(0)", x.pack(0), 2);
        Check.places("packed", x, 0, 0, 6, 7, 8, NONE, NONE, 0, 1);
        Check.ints("packed", x, 0, 0, 10, 11, 12, 0, 0, 15, 16);
    }

    private static void nearBlockThatBecameFree() {
        ExtentVolume x = Check.fullVolume();
        x.punch(0, 12, 1);
        x.write(3, 0, 1, 50);
        x.punch(0, 30, 3);
        x.write(3, 1, 3, 51);
        Check.places("before", x, 3, 0, 12, 30, 31, 32);
        x.punch(0, 5, 1);
        x.punch(0, 10, 2);
        x.punch(0, 42, 1);
        // Pieces 0 and 1 go to the longest extent, 10..11. Piece 0 left block 12, so that is near for piece 2.
        Check.due("pack(3)", x.pack(3), 2);
        Check.places("packed", x, 3, 0, 10, 11, 12, 5);
        Check.ints("packed", x, 3, 0, 50, 51, 52, 53);
        Check.freeExtents("packed", x, 0, 42, 1, 30, 3);
    }

    private static void bestExtentThatBecameFree() {
        ExtentVolume x = Check.fullVolume();
        x.punch(0, 0, 32);
        x.punch(1, 0, 64);
        x.punch(2, 0, 32);
        x.write(4, 0, 64, 500);
        Check.places("before", x, 4, 0, 64, 65);
        // No extent has 64 blocks: 0..31 is the longest, and what it took left 64..95 in the file's own group.
        Check.due("pack(4)", x.pack(4), 2);
        Check.places("packed", x, 4, 30, 30, 31, 64, 65);
        Check.places("packed", x, 4, 63, 95);
        Check.ints("packed", x, 4, 30, 530, 531, 532, 533);
        Check.freeExtents("packed", x, 1, 96, 32);
        Check.freeExtents("packed", x, 2, 128, 32);
    }

    private static void sharedPiecesGetTheirOwnBlocks() {
        ExtentVolume x = new ExtentVolume();
        x.write(0, 0, 3, 10);
        x.share(0, 1, 0, 3);
        Check.due("pack(1)", x.pack(1), 1);
        Check.places("packed", x, 1, 0, 64, 65, 66);
        Check.ints("packed", x, 1, 0, 10, 11, 12);
        Check.places("the other file", x, 0, 0, 0, 1, 2);
        Check.due("uses(0)", x.uses(0), 1);
        x.write(1, 0, 3, 70);
        Check.ints("the other file", x, 0, 0, 10, 11, 12);
    }

    private static void fullChangesNothing() {
        ExtentVolume x = Check.fullVolume();
        x.punch(2, 0, 32);
        x.punch(0, 0, 31);
        x.punch(1, 0, 64);
        x.write(4, 0, 64, 0);
        x.settle();
        Check.due("room(3, 1)", x.room(3, 1), 63);
        Check.due("pack(4)", x.pack(4), FULL);
        Check.due("changes()", x.changes(), 0);
        Check.places("full", x, 4, 0, 64, 65);
        x.punch(0, 31, 1);
        Check.due("pack(4) with 64 free blocks", x.pack(4), 2);
    }

    private static void emptyAndWrongFiles() {
        ExtentVolume x = Check.fullVolume();
        x.settle();
        Check.due("pack(7) without pieces", x.pack(7), 0);
        Check.due("changes()", x.changes(), 1);
        Check.due("pack(-1)", x.pack(-1), NONE);
        Check.due("pack(8)", x.pack(8), NONE);
        Check.due("pack(min)", x.pack(Integer.MIN_VALUE), NONE);
        Check.due("pack(max)", x.pack(Integer.MAX_VALUE), NONE);
        Check.due("pack(0)", x.pack(0), FULL);
        Check.due("changes()", x.changes(), 1);
    }
}
