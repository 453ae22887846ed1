/** Promise 6: pack. */
public final class PackTest {
    private static final int NONE = ExtentVolume.NONE;
    private static final int FULL = ExtentVolume.FULL;

    public static void main(String[] args) {
        scatteredPiecesComeTogether();
        rowsEndAtHoles();
        rowsAtBothEnds();
        lowestRowFirst();
        laterRowsUseBlocksLeftByEarlierOnes();
        notNearToWhatIsBeforeTheRow();
        placedAnewThoughTogether();
        sharedPiecesGetTheirOwnBlocks();
        howManyExtents();
        asManyFreeBlocksAsPieces();
        anyFreeBlockWillDo();
        sharedPiecesCountForFull();
        fullChangesNothing();
        noPieces();
        noSuchFile();
        Check.end();
    }

    private static void scatteredPiecesComeTogether() {
        Check.sentence("All pieces of a file that are no holes are placed anew, with their ints");
        ExtentVolume x = new ExtentVolume();
        for (int i = 0; i < 4; i++) {
            x.write(0, i, 1, 10 + 5 * i);
            x.write(3, i, 1, 30 + i);
        }
        Check.places("scattered", x, 0, 0, 0, 2, 4, 6);
        Check.due("extents(0)", x.extents(0), 4);
        Check.due("pack(0)", x.pack(0), 1);
        Check.places("packed", x, 0, 0, 8, 9, 10, 11, NONE);
        Check.ints("packed", x, 0, 0, 10, 15, 20, 25, 0);
        Check.ints("the other file", x, 3, 0, 30, 31, 32, 33);
        Check.freeExtents("packed", x, 0, 0, 1, 2, 1, 4, 1, 6, 1, 12, 52);
    }

    private static void rowsEndAtHoles() {
        Check.sentence("row by row of pieces (rows end at holes)");
        ExtentVolume x = new ExtentVolume();
        x.write(0, 0, 6, 10);
        x.punch(0, 2, 1);
        x.write(3, 0, 1, 30);
        Check.places("before", x, 3, 0, 2);
        // The row 0..1 goes to the one free extent, from 6 on, and leaves too few blocks for the row 3..5.
        Check.due("pack(0)", x.pack(0), 2);
        Check.places("packed", x, 0, 0, 6, 7, NONE, 8, 9, 10);
        Check.ints("packed", x, 0, 0, 10, 11, 0, 13, 14, 15);
    }

    private static void rowsAtBothEnds() {
        Check.sentence("row by row of pieces: from piece 0 and up to piece 63");
        ExtentVolume x = new ExtentVolume();
        x.write(0, 0, 2, 10);
        x.write(0, 62, 2, 20);
        // The pieces behind 63 are none, though file 1 has a piece 0.
        x.write(1, 0, 1, 30);
        Check.due("pack(0)", x.pack(0), 2);
        Check.places("the first row", x, 0, 0, 4, 5, NONE);
        Check.places("the last row", x, 0, 61, NONE, 0, 1);
        Check.ints("the first row", x, 0, 0, 10, 11);
        Check.ints("the last row", x, 0, 62, 20, 21);
        Check.places("the other file", x, 1, 0, 64);
        ExtentVolume y = new ExtentVolume();
        y.write(0, 0, 64, 10);
        Check.due("pack(0) of 64 pieces", y.pack(0), 1);
        Check.places("the next group", y, 0, 0, 64);
        Check.places("the next group", y, 0, 63, 127);
        Check.ints("the next group", y, 0, 63, 73);
    }

    private static void lowestRowFirst() {
        Check.sentence("row by row of pieces (the lowest first)");
        ExtentVolume x = Check.fullVolume();
        x.punch(0, 10, 1);
        x.punch(0, 20, 1);
        x.write(3, 5, 1, 50);
        x.write(3, 1, 1, 51);
        Check.places("before", x, 3, 1, 20, NONE, NONE, NONE, 10);
        x.punch(0, 30, 1);
        x.punch(0, 40, 1);
        // Piece 1 takes block 30 and leaves 20, which is then the least one for piece 5.
        Check.due("pack(3)", x.pack(3), 2);
        Check.places("packed", x, 3, 1, 30, NONE, NONE, NONE, 20);
        Check.ints("packed", x, 3, 1, 51, 0, 0, 0, 50);
    }

    private static void laterRowsUseBlocksLeftByEarlierOnes() {
        Check.sentence("row by row: a block with no uses any more is free for the next row");
        ExtentVolume x = new ExtentVolume();
        x.write(0, 0, 3, 10);
        x.write(3, 0, 1, 30);
        x.write(0, 5, 2, 15);
        // Row 0..2 leaves blocks 0..2, which then have the best size for row 5..6.
        Check.due("pack(0)", x.pack(0), 2);
        Check.places("packed", x, 0, 0, 6, 7, 8, NONE, NONE, 0, 1);
        Check.ints("packed", x, 0, 0, 10, 11, 12, 0, 0, 15, 16);
    }

    private static void notNearToWhatIsBeforeTheRow() {
        Check.sentence("as if the piece before a row were a hole");
        ExtentVolume x = new ExtentVolume();
        x.write(3, 0, 1, 10);
        x.write(2, 63, 1, 0);
        x.write(0, 0, 1, 0);
        x.write(3, 3, 1, 20);
        Check.places("before", x, 3, 0, 0, NONE, NONE, 2);
        // 129 would be near to piece 63 of file 2, 4 to piece 0 of the row before.
        Check.due("pack(3)", x.pack(3), 2);
        Check.places("packed", x, 3, 0, 3, NONE, NONE, 0);
        Check.ints("packed", x, 3, 0, 10, 0, 0, 20);
    }

    private static void placedAnewThoughTogether() {
        Check.sentence("All pieces .. are placed anew: also those of one extent");
        ExtentVolume x = new ExtentVolume();
        x.write(0, 0, 3, 10);
        Check.due("pack(0)", x.pack(0), 1);
        Check.places("packed", x, 0, 0, 3, 4, 5);
        Check.freeExtents("packed", x, 0, 0, 3, 6, 58);
        Check.due("pack(0) again", x.pack(0), 1);
        Check.places("packed again", x, 0, 0, 0, 1, 2);
        Check.ints("packed again", x, 0, 0, 10, 11, 12);
    }

    private static void sharedPiecesGetTheirOwnBlocks() {
        Check.sentence("All pieces .. are placed anew: shared ones, too");
        ExtentVolume x = new ExtentVolume();
        x.write(0, 0, 3, 10);
        x.share(0, 1, 0, 3);
        Check.due("pack(1)", x.pack(1), 1);
        Check.places("packed", x, 1, 0, 64, 65, 66);
        Check.ints("packed", x, 1, 0, 10, 11, 12);
        Check.places("the other file", x, 0, 0, 0, 1, 2);
        Check.due("uses(0)", x.uses(0), 1);
        x.write(1, 0, 3, 70);
        Check.ints("the other file", x, 0, 0, 10, 11, 12);
    }

    private static void howManyExtents() {
        Check.sentence("how many extents it has then");
        ExtentVolume x = Check.fullVolume();
        x.punch(0, 10, 2);
        x.write(3, 0, 2, 0);
        x.punch(1, 10, 1);
        x.punch(2, 10, 1);
        Check.due("extents(3) before", x.extents(3), 1);
        Check.due("pack(3) to two blocks apart", x.pack(3), 2);
        Check.places("packed", x, 3, 0, 74, 10);
        Check.due("extents(3)", x.extents(3), 2);
    }

    private static void asManyFreeBlocksAsPieces() {
        Check.sentence("FULL .. if there are fewer free blocks than pieces that are no holes");
        ExtentVolume x = Check.fullVolume();
        x.punch(2, 0, 32);
        x.punch(0, 0, 31);
        x.punch(1, 0, 64);
        x.write(4, 0, 64, 0);
        Check.due("room(3, 1)", x.room(3, 1), 63);
        Check.due("pack(4) with 63 free blocks", x.pack(4), FULL);
        x.punch(0, 31, 1);
        Check.due("pack(4) with 64 free blocks", x.pack(4), 2);
        x.punch(4, 63, 1);
        Check.due("pack(4) of 63 pieces", x.pack(4), 2);
    }

    private static void anyFreeBlockWillDo() {
        Check.sentence("FULL .. if there are fewer free blocks: the first and last of each group count");
        for (int file = 0; file < 3; file++) {
            for (int piece = 0; piece < 64; piece += 63) {
                ExtentVolume x = Check.fullVolume();
                x.share(0, 3, 30, 1);
                x.punch(file, piece, 1);
                Check.due("pack(3)", x.pack(3), 1);
                Check.places("the one free block", x, 3, 30, 64 * file + piece);
                Check.ints("the one free block", x, 3, 30, 30);
            }
        }
    }

    private static void sharedPiecesCountForFull() {
        Check.sentence("FULL .. than pieces that are no holes: shared ones, too");
        ExtentVolume x = Check.fullVolume();
        x.share(0, 3, 0, 2);
        x.punch(1, 0, 1);
        Check.due("two pieces and one free block", x.pack(3), FULL);
        x.punch(1, 1, 1);
        Check.due("two pieces and two free blocks", x.pack(3), 1);
        Check.places("packed", x, 3, 0, 64, 65);
    }

    private static void fullChangesNothing() {
        Check.sentence("FULL, and nothing changes");
        Same.due("pack(0)", x -> {
            almostFull(x);
            Check.due("pack(0)", x.pack(0), FULL);
        }, PackTest::almostFull);
    }

    /** File 0 has three pieces, and two blocks are free. */
    private static void almostFull(ExtentVolume x) {
        x.write(3, 0, 62, 300);
        x.write(1, 0, 64, 100);
        x.write(2, 0, 64, 200);
        x.write(0, 0, 2, 10);
        x.punch(2, 10, 2);
        x.share(1, 0, 5, 1);
    }

    private static void noPieces() {
        Check.sentence("FULL .. if there are fewer: not for a file of holes in a full volume");
        ExtentVolume x = Check.fullVolume();
        x.settle();
        Check.due("pack(7)", x.pack(7), 0);
        Check.due("changes()", x.changes(), 1);
        Check.due("pack(0)", x.pack(0), FULL);
        Check.due("changes()", x.changes(), 1);
    }

    private static void noSuchFile() {
        Check.sentence("NONE: no such file");
        ExtentVolume x = new ExtentVolume();
        x.write(0, 0, 1, 5);
        for (int file : Check.NO_FILES) {
            Check.due("pack(" + file + ")", x.pack(file), NONE);
        }
        Check.places("nothing changes", x, 0, 0, 0);
        Check.due("changes()", x.changes(), 1);
    }
}
