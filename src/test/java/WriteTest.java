/** Promise 2: write, and how pieces are placed. */
public final class WriteTest {
    private static final int NONE = ExtentVolume.NONE;
    private static final int FULL = ExtentVolume.FULL;

    public static void main(String[] args) {
        groupOfFile();
        nearBeforeBest();
        nearRunThenBest();
        nearEndsWithTheGroup();
        bestIsShortestThenLowest();
        bestIsTheFirstGroupWithRoom();
        longestThenBest();
        longestOfAllGroups();
        rowsAreLowestFirst();
        nearBehindASharedPiece();
        aloneStaysWhereItIs();
        sharedIsPlacedAnew();
        fullChangesNothing();
        wrongInputs();
        Check.end();
    }

    private static void groupOfFile() {
        ExtentVolume x = new ExtentVolume();
        int[] due = {0, 64, 128, 2, 66, 130, 4, 68};
        for (int file = 0; file < 8; file++) {
            Check.due("write(" + file + ", 3, 2, 1)", x.write(file, 3, 2, 1), 2);
            Check.places("group of file", x, file, 2, NONE, due[file], due[file] + 1, NONE);
        }
    }

    private static void nearBeforeBest() {
        ExtentVolume x = new ExtentVolume();
        x.write(0, 0, 10, 0);
        x.punch(0, 2, 1);
        x.punch(0, 5, 3);
        // Block 2 would be the best size for one piece, block 10 is near piece 9.
        Check.due("write(0, 10, 1, 9)", x.write(0, 10, 1, 9), 1);
        Check.places("near", x, 0, 10, 10);
        Check.due("write(0, 12, 1, 9)", x.write(0, 12, 1, 9), 1);
        Check.places("behind a hole", x, 0, 12, 2);
    }

    private static void nearRunThenBest() {
        ExtentVolume x = new ExtentVolume();
        x.write(0, 0, 6, 0);
        x.write(3, 0, 6, 0);
        x.punch(0, 2, 4);
        x.write(3, 20, 2, 0);
        Check.places("best", x, 3, 20, 2, 3);
        x.punch(3, 20, 1);
        // Block 2 alone is free behind piece 1; then the row 4, 5 has the best size for two.
        Check.due("write(0, 2, 3, 7)", x.write(0, 2, 3, 7), 3);
        Check.places("near, then best", x, 0, 0, 0, 1, 2, 4, 5, NONE);
        Check.ints("near, then best", x, 0, 2, 7, 8, 9, 0);
    }

    private static void nearEndsWithTheGroup() {
        ExtentVolume x = new ExtentVolume();
        x.write(0, 0, 63, 0);
        Check.due("write(0, 63, 1, 5)", x.write(0, 63, 1, 5), 1);
        Check.places("last of the group", x, 0, 62, 62, 63);
        ExtentVolume y = new ExtentVolume();
        y.write(3, 0, 62, 0);
        y.write(6, 0, 1, 0);
        y.write(6, 1, 2, 0);
        // No block is near to 63, the last one of its group; 64 is the best one.
        Check.places("over the end", y, 6, 0, 62, 63, 64);
        y.write(1, 0, 1, 0);
        y.punch(6, 2, 1);
        y.write(6, 2, 2, 0);
        Check.places("not near over the end", y, 6, 2, 66, 67);
    }

    private static void bestIsShortestThenLowest() {
        ExtentVolume x = new ExtentVolume();
        x.write(0, 0, 64, 0);
        x.punch(0, 1, 4);
        x.punch(0, 10, 2);
        x.punch(0, 20, 3);
        x.punch(0, 30, 3);
        x.punch(0, 40, 1);
        Check.due("write(3, 0, 3, 0)", x.write(3, 0, 3, 0), 3);
        Check.places("shortest of those long enough", x, 3, 0, 20, 21, 22);
        Check.due("write(3, 10, 2, 0)", x.write(3, 10, 2, 0), 2);
        Check.places("exact", x, 3, 10, 10, 11);
        Check.due("write(3, 20, 2, 0)", x.write(3, 20, 2, 0), 2);
        Check.places("next longer", x, 3, 20, 30, 31);
    }

    private static void bestIsTheFirstGroupWithRoom() {
        ExtentVolume x = Check.fullVolume();
        x.punch(0, 0, 3);
        x.punch(1, 5, 9);
        x.punch(2, 7, 3);
        Check.due("write(4, 0, 3, 0)", x.write(4, 0, 3, 0), 3);
        Check.places("own group, though not the shortest", x, 4, 0, 69, 70, 71);
        Check.due("write(5, 0, 4, 0)", x.write(5, 0, 4, 0), 4);
        Check.places("0 is behind 2, then 1", x, 5, 0, 72, 73, 74, 75);
        Check.due("write(5, 10, 3, 0)", x.write(5, 10, 3, 0), 3);
        Check.places("group 2 for file 5", x, 5, 10, 135, 136, 137);
        Check.due("write(5, 20, 3, 0)", x.write(5, 20, 3, 0), 3);
        Check.places("group 0 behind group 2", x, 5, 20, 0, 1, 2);
    }

    private static void longestThenBest() {
        ExtentVolume x = Check.fullVolume();
        x.punch(0, 10, 2);
        x.punch(0, 20, 3);
        x.punch(0, 30, 3);
        x.punch(0, 40, 1);
        Check.due("write(3, 0, 8, 50)", x.write(3, 0, 8, 50), 8);
        Check.places("3 longest, 3 longest, 2 best", x, 3, 0, 20, 21, 22, 30, 31, 32, 10, 11);
        Check.ints("3 longest, 3 longest, 2 best", x, 3, 0, 50, 51, 52, 53, 54, 55, 56, 57);
        Check.due("room(3, 1)", x.room(3, 1), 1);
    }

    private static void longestOfAllGroups() {
        ExtentVolume x = Check.fullVolume();
        x.punch(0, 10, 3);
        x.punch(1, 10, 2);
        x.punch(2, 10, 4);
        Check.due("write(4, 0, 9, 0)", x.write(4, 0, 9, 0), 9);
        Check.places("group 2, group 0, group 1", x, 4, 0, 138, 139, 140, 141, 10, 11, 12, 74, 75);
    }

    private static void rowsAreLowestFirst() {
        ExtentVolume x = new ExtentVolume();
        x.write(0, 2, 1, 0);
        x.write(3, 0, 1, 0);
        x.write(0, 5, 1, 0);
        // Rows 0..1, 3..4 and 6..7 of file 0 are holes; blocks 0 and 2 have its pieces 2 and 5.
        Check.due("write(0, 0, 8, 30)", x.write(0, 0, 8, 30), 6);
        Check.places("rows", x, 0, 0, 3, 4, 0, 5, 6, 2, 7, 8);
        Check.ints("rows", x, 0, 0, 30, 31, 32, 33, 34, 35, 36, 37);
    }

    private static void nearBehindASharedPiece() {
        ExtentVolume x = new ExtentVolume();
        x.write(0, 0, 4, 0);
        x.share(0, 1, 0, 4);
        Check.due("write(1, 4, 2, 0)", x.write(1, 4, 2, 0), 2);
        Check.places("near a shared block", x, 1, 3, 3, 4, 5);
        ExtentVolume y = new ExtentVolume();
        y.write(0, 0, 4, 0);
        y.share(0, 1, 0, 2);
        // Piece 1 is shared, so pieces 1 to 3 are one row behind piece 0, and block 1 is not free.
        Check.due("write(1, 1, 3, 0)", y.write(1, 1, 3, 0), 3);
        Check.places("a row of a shared piece and holes", y, 1, 0, 0, 64, 65, 66);
    }

    private static void aloneStaysWhereItIs() {
        ExtentVolume x = new ExtentVolume();
        x.write(5, 10, 3, 1);
        Check.due("write(5, 11, 1, 9)", x.write(5, 11, 1, 9), 0);
        Check.places("alone", x, 5, 10, 128, 129, 130);
        Check.ints("alone", x, 5, 10, 1, 9, 3);
        Check.due("changes()", x.changes(), 2);
        ExtentVolume y = Check.fullVolume();
        Check.due("write(0, 0, 64, 7) of a full volume", y.write(0, 0, 64, 7), 0);
        Check.ints("full volume", y, 0, 62, 69, 70);
    }

    private static void sharedIsPlacedAnew() {
        ExtentVolume x = new ExtentVolume();
        x.write(0, 0, 4, 10);
        x.share(0, 1, 0, 4);
        Check.due("write(0, 1, 2, 50)", x.write(0, 1, 2, 50), 2);
        Check.places("the writer moves", x, 0, 0, 0, 4, 5, 3);
        Check.ints("the writer", x, 0, 0, 10, 50, 51, 13);
        Check.places("the other one stays", x, 1, 0, 0, 1, 2, 3);
        Check.ints("the other one", x, 1, 0, 10, 11, 12, 13);
        Check.due("write(1, 1, 1, 70)", x.write(1, 1, 1, 70), 0);
        Check.places("alone now", x, 1, 1, 1);
    }

    private static void fullChangesNothing() {
        ExtentVolume x = Check.fullVolume();
        x.punch(0, 10, 2);
        x.settle();
        Check.due("write(0, 9, 4, 500)", x.write(0, 9, 4, 500), 2);
        x.punch(0, 10, 2);
        Check.due("write(3, 0, 3, 500)", x.write(3, 0, 3, 500), FULL);
        Check.due("changes()", x.changes(), 2);
        Check.due("room(3, 1)", x.room(3, 1), 2);
        Check.places("full", x, 3, 0, NONE, NONE, NONE);
        x.share(0, 3, 20, 3);
        // Three pieces that share their blocks need three others, and two are free.
        Check.due("write(3, 20, 3, 500)", x.write(3, 20, 3, 500), FULL);
        Check.ints("full", x, 3, 20, 20, 21, 22);
        Check.due("write(3, 20, 2, 500)", x.write(3, 20, 2, 500), 2);
        Check.places("two fit", x, 3, 20, 10, 11, 22);
    }

    private static void wrongInputs() {
        ExtentVolume x = new ExtentVolume();
        Check.due("write(-1, 0, 1, 1)", x.write(-1, 0, 1, 1), NONE);
        Check.due("write(8, 0, 1, 1)", x.write(8, 0, 1, 1), NONE);
        Check.due("write(0, -1, 2, 1)", x.write(0, -1, 2, 1), NONE);
        Check.due("write(0, 64, 1, 1)", x.write(0, 64, 1, 1), NONE);
        Check.due("write(0, 63, 2, 1)", x.write(0, 63, 2, 1), NONE);
        Check.due("write(0, 0, 65, 1)", x.write(0, 0, 65, 1), NONE);
        Check.due("write(0, 0, 0, 1)", x.write(0, 0, 0, 1), NONE);
        Check.due("write(0, 1, max, 1)", x.write(0, 1, Integer.MAX_VALUE, 1), NONE);
        Check.due("write(0, max, max, 1)", x.write(0, Integer.MAX_VALUE, Integer.MAX_VALUE, 1), NONE);
        Check.due("write(0, min, min, 1)", x.write(0, Integer.MIN_VALUE, Integer.MIN_VALUE, 1), NONE);
        Check.due("changes()", x.changes(), 0);
        Check.due("room(3, 1)", x.room(3, 1), 192);
        Check.due("write(7, 63, 1, 1)", x.write(7, 63, 1, 1), 1);
        Check.due("write(7, 0, 64, 1)", x.write(7, 0, 64, 1), 63);
    }
}
