/** Promise 2: write. */
public final class WriteTest {
    private static final int NONE = ExtentVolume.NONE;
    private static final int FULL = ExtentVolume.FULL;

    public static void main(String[] args) {
        oneAtLeast();
        within();
        intsRise();
        aloneStaysWhereItIs();
        othersArePlaced();
        sharedIsPlacedAnew();
        lowestRowFirst();
        eachRowByItself();
        howManyWerePlaced();
        fewerFreeBlocks();
        anyFreeBlockWillDo();
        noneNeededInAFullVolume();
        sharedBlocksAreNotFree();
        fullChangesNothing();
        noSuchFile();
        noSuchPiece();
        Check.end();
    }

    private static void oneAtLeast() {
        Check.sentence("n 1 at least");
        ExtentVolume x = new ExtentVolume();
        for (int n : Check.BELOW_ONE) {
            Check.due("write(0, 5, " + n + ", 1)", x.write(0, 5, n, 1), NONE);
        }
        Check.due("write(0, 5, 1, 1)", x.write(0, 5, 1, 1), 1);
        Check.places("one", x, 0, 4, NONE, 0, NONE);
    }

    private static void within() {
        Check.sentence("within 0..63");
        ExtentVolume x = new ExtentVolume();
        Check.due("write(7, 63, 1, 1)", x.write(7, 63, 1, 1), 1);
        Check.due("write(7, 0, 1, 1)", x.write(7, 0, 1, 1), 1);
        Check.due("write(7, 62, 2, 1)", x.write(7, 62, 2, 1), 1);
        Check.due("write(7, 1, 63, 1)", x.write(7, 1, 63, 1), 61);
        Check.due("write(7, 0, 64, 1)", x.write(7, 0, 64, 1), 0);
        Check.ints("all", x, 7, 0, 1, 2);
        Check.ints("all", x, 7, 62, 63, 64);
    }

    private static void intsRise() {
        Check.sentence("get the ints v, v + 1, ..");
        ExtentVolume x = new ExtentVolume();
        x.write(0, 1, 3, -1);
        Check.ints("over 0", x, 0, 0, 0, -1, 0, 1, 0);
        // Piece 2 is alone and pieces 0 and 4 are holes: all count alike.
        x.write(0, 0, 5, 40);
        Check.ints("alone and holes", x, 0, 0, 40, 41, 42, 43, 44, 0);
    }

    private static void aloneStaysWhereItIs() {
        Check.sentence("those that are alone at their block there");
        ExtentVolume x = new ExtentVolume();
        x.write(5, 10, 3, 1);
        Check.due("write(5, 11, 1, 9)", x.write(5, 11, 1, 9), 0);
        Check.places("alone", x, 5, 10, 128, 129, 130);
        Check.ints("alone", x, 5, 10, 1, 9, 3);
        Check.due("changes()", x.changes(), 2);
    }

    private static void othersArePlaced() {
        Check.sentence("all others, that are holes or share their block, are placed");
        ExtentVolume x = new ExtentVolume();
        x.write(0, 0, 6, 10);
        x.share(0, 1, 2, 2);
        x.punch(0, 1, 1);
        // Pieces 0, 4 and 5 are alone, 1 is a hole, 2 and 3 are shared: one row, behind block 0.
        Check.due("write(0, 0, 6, 50)", x.write(0, 0, 6, 50), 3);
        Check.places("block 1 is near, 6 and 7 are best", x, 0, 0, 0, 1, 6, 7, 4, 5);
        Check.ints("all", x, 0, 0, 50, 51, 52, 53, 54, 55);
        Check.places("the other file", x, 1, 1, NONE, 2, 3, NONE);
        Check.ints("the other file", x, 1, 1, 0, 12, 13, 0);
    }

    private static void sharedIsPlacedAnew() {
        Check.sentence("or share their block");
        ExtentVolume x = new ExtentVolume();
        x.write(0, 0, 4, 10);
        x.share(0, 1, 0, 4);
        Check.due("write(0, 1, 2, 50)", x.write(0, 1, 2, 50), 2);
        Check.places("the writer moves", x, 0, 0, 0, 4, 5, 3);
        Check.ints("the writer", x, 0, 0, 10, 50, 51, 13);
        Check.places("the other one stays", x, 1, 0, 0, 1, 2, 3);
        Check.ints("the other one", x, 1, 0, 10, 11, 12, 13);
        Check.due("write(1, 1, 1, 70)", x.write(1, 1, 1, 70), 0);
        Check.places("alone now", x, 1, 1, 1);
    }

    private static void lowestRowFirst() {
        Check.sentence("rows .. are placed first, the lowest row first");
        ExtentVolume x = new ExtentVolume();
        x.write(0, 2, 1, 0);
        x.write(3, 0, 1, 0);
        x.write(0, 5, 1, 0);
        // Rows 0..1, 3..4 and 6..7 of file 0 are holes; blocks 0 and 2 have its pieces 2 and 5.
        Check.due("write(0, 0, 8, 30)", x.write(0, 0, 8, 30), 6);
        Check.places("rows", x, 0, 0, 3, 4, 0, 5, 6, 2, 7, 8);
        Check.ints("rows", x, 0, 0, 30, 31, 32, 33, 34, 35, 36, 37);
    }

    private static void eachRowByItself() {
        Check.sentence("rows of all others: each row is placed by itself");
        ExtentVolume x = Check.fullVolume();
        x.punch(0, 10, 1);
        x.punch(0, 20, 1);
        x.punch(0, 30, 1);
        x.punch(1, 50, 2);
        x.share(0, 3, 40, 1);
        x.punch(0, 40, 1);
        // Piece 40 is alone, with holes around it: two rows of one, not one of two.
        Check.due("write(3, 39, 3, 7)", x.write(3, 39, 3, 7), 2);
        Check.places("rows of one", x, 3, 39, 10, 40, 20);
        Check.ints("rows of one", x, 3, 39, 7, 8, 9);
    }

    private static void howManyWerePlaced() {
        Check.sentence("How many were placed");
        ExtentVolume x = new ExtentVolume();
        Check.due("all", x.write(0, 0, 64, 1), 64);
        Check.due("none", x.write(0, 0, 64, 2), 0);
        x.punch(0, 20, 1);
        Check.due("a hole", x.write(0, 0, 64, 3), 1);
        x.share(0, 1, 30, 5);
        Check.due("five that are shared", x.write(0, 0, 64, 4), 5);
        x.share(0, 1, 0, 64);
        Check.due("all that are shared", x.write(1, 0, 64, 5), 64);
    }

    private static void fewerFreeBlocks() {
        Check.sentence("FULL .. if there are fewer free blocks");
        ExtentVolume x = Check.fullVolume();
        x.punch(0, 10, 1);
        x.punch(1, 10, 1);
        x.punch(2, 10, 1);
        Check.due("four for three blocks", x.write(3, 0, 4, 0), FULL);
        Check.due("three for three blocks", x.write(3, 0, 3, 0), 3);
        Check.places("all three", x, 3, 0, 10, 74, 138);
        Check.due("one for no block", x.write(3, 3, 1, 0), FULL);
    }

    private static void anyFreeBlockWillDo() {
        Check.sentence("FULL .. if there are fewer free blocks: the first and last of each group count");
        for (int file = 0; file < 3; file++) {
            for (int piece = 0; piece < 64; piece += 63) {
                ExtentVolume x = Check.fullVolume();
                x.punch(file, piece, 1);
                Check.due("write(3, 9, 2, 5)", x.write(3, 9, 2, 5), FULL);
                Check.due("write(3, 9, 1, 5)", x.write(3, 9, 1, 5), 1);
                Check.places("the one free block", x, 3, 9, 64 * file + piece);
            }
        }
    }

    private static void noneNeededInAFullVolume() {
        Check.sentence("FULL .. if there are fewer free blocks: not if none is needed");
        ExtentVolume x = Check.fullVolume();
        Check.due("write(0, 0, 64, 7)", x.write(0, 0, 64, 7), 0);
        Check.ints("written", x, 0, 62, 69, 70);
        Check.due("changes()", x.changes(), 4);
    }

    private static void sharedBlocksAreNotFree() {
        Check.sentence("FULL .. if there are fewer free blocks: than holes and shared pieces");
        ExtentVolume x = Check.fullVolume();
        x.punch(0, 10, 2);
        x.share(0, 3, 20, 3);
        Check.due("three that are shared", x.write(3, 20, 3, 500), FULL);
        Check.due("two that are shared and a hole", x.write(3, 21, 3, 500), FULL);
        Check.due("two that are shared", x.write(3, 20, 2, 500), 2);
        Check.places("two fit", x, 3, 20, 10, 11, 22);
    }

    private static void fullChangesNothing() {
        Check.sentence("FULL, and nothing changes");
        // Piece 4 is alone, 5 a hole, and 6 shares its block: two to place, and one free block.
        Same.due("write(0, 4, 3, 77)", x -> {
            almostFull(x);
            Check.due("write(0, 4, 3, 77)", x.write(0, 4, 3, 77), FULL);
        }, WriteTest::almostFull);
    }

    private static void almostFull(ExtentVolume x) {
        for (int file = 0; file < 3; file++) {
            x.write(file, 0, 64, 1000 * file);
        }
        x.punch(0, 5, 1);
        x.share(0, 3, 6, 1);
    }

    private static void noSuchFile() {
        Check.sentence("NONE if there is no such file");
        ExtentVolume x = new ExtentVolume();
        for (int file : Check.NO_FILES) {
            Check.due("write(" + file + ", 0, 1, 1)", x.write(file, 0, 1, 1), NONE);
        }
        Check.due("room(3, 1)", x.room(3, 1), 192);
        Check.due("changes()", x.changes(), 0);
    }

    private static void noSuchPiece() {
        Check.sentence("NONE if there is no such .. piece");
        ExtentVolume x = new ExtentVolume();
        for (int file = 0; file < 8; file += 7) {
            for (int[] pieces : Check.NO_PIECES) {
                String call = "write(" + file + ", " + pieces[0] + ", " + pieces[1] + ", 1)";
                Check.due(call, x.write(file, pieces[0], pieces[1], 1), NONE);
            }
        }
        Check.due("room(3, 1)", x.room(3, 1), 192);
        Check.due("changes()", x.changes(), 0);
    }
}
