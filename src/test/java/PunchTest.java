/** Promise 4: punch. */
public final class PunchTest {
    private static final int NONE = ExtentVolume.NONE;

    public static void main(String[] args) {
        piecesBecomeHoles();
        firstAndLastPieces();
        howManyBecameFree();
        holesFreeNothing();
        sharedBlocksStay();
        theLastUse();
        noSuchFile();
        noSuchPiece();
        oneAtLeast();
        Check.end();
    }

    private static void piecesBecomeHoles() {
        Check.sentence("Pieces become holes");
        ExtentVolume x = new ExtentVolume();
        x.write(0, 2, 4, 10);
        Check.due("punch(0, 3, 2)", x.punch(0, 3, 2), 2);
        Check.places("punched", x, 0, 2, 0, NONE, NONE, 3);
        Check.ints("punched", x, 0, 2, 10, 0, 0, 13);
        Check.freeExtents("punched", x, 0, 1, 2, 4, 60);
    }

    private static void firstAndLastPieces() {
        Check.sentence("Pieces (as in write): within 0..63");
        ExtentVolume x = new ExtentVolume();
        x.write(7, 0, 64, 10);
        Check.due("punch(7, 0, 1)", x.punch(7, 0, 1), 1);
        Check.due("punch(7, 63, 1)", x.punch(7, 63, 1), 1);
        Check.places("the first ones", x, 7, 0, NONE, 65);
        Check.places("the last ones", x, 7, 62, 126, NONE);
        Check.due("punch(7, 62, 2)", x.punch(7, 62, 2), 1);
        Check.due("punch(7, 0, 64)", x.punch(7, 0, 64), 61);
        Check.due("extents(7)", x.extents(7), 0);
    }

    private static void howManyBecameFree() {
        Check.sentence("how many blocks became free");
        ExtentVolume x = new ExtentVolume();
        x.write(0, 0, 64, 1);
        Check.due("punch(0, 0, 64)", x.punch(0, 0, 64), 64);
        Check.freeExtents("all punched", x, 0, 0, 64);
        Check.due("room(3, 1)", x.room(3, 1), 192);
    }

    private static void holesFreeNothing() {
        Check.sentence("how many blocks became free: none of holes");
        ExtentVolume x = new ExtentVolume();
        Check.due("punch(0, 0, 64) of holes", x.punch(0, 0, 64), 0);
        x.write(0, 10, 1, 1);
        Check.due("punch(0, 0, 64) of one", x.punch(0, 0, 64), 1);
        Check.due("changes()", x.changes(), 3);
    }

    private static void sharedBlocksStay() {
        Check.sentence("how many blocks became free: not those with other uses");
        ExtentVolume x = new ExtentVolume();
        x.write(0, 0, 4, 10);
        x.share(0, 1, 1, 2);
        Check.due("punch(0, 0, 4)", x.punch(0, 0, 4), 2);
        Check.ints("the other file", x, 1, 0, 0, 11, 12, 0);
        Check.due("punch(1, 0, 2)", x.punch(1, 0, 2), 1);
        Check.due("room(0, 1)", x.room(0, 1), 63);
    }

    private static void theLastUse() {
        Check.sentence("how many blocks became free: with the last of eight uses");
        ExtentVolume x = new ExtentVolume();
        x.write(0, 3, 1, 10);
        for (int to = 1; to < 8; to++) {
            x.share(0, to, 3, 1);
        }
        for (int file = 0; file < 8; file++) {
            Check.due("punch(" + file + ", 0, 64)", x.punch(file, 0, 64), file == 7 ? 1 : 0);
        }
    }

    private static void noSuchFile() {
        Check.sentence("NONE: no such file");
        ExtentVolume x = Check.fullVolume();
        for (int file : Check.NO_FILES) {
            Check.due("punch(" + file + ", 0, 1)", x.punch(file, 0, 1), NONE);
        }
        Check.due("room(3, 1)", x.room(3, 1), 0);
        Check.due("changes()", x.changes(), 3);
    }

    private static void noSuchPiece() {
        Check.sentence("NONE: no such piece");
        ExtentVolume x = Check.fullVolume();
        for (int file = 0; file < 3; file++) {
            for (int[] pieces : Check.NO_PIECES) {
                String call = "punch(" + file + ", " + pieces[0] + ", " + pieces[1] + ")";
                Check.due(call, x.punch(file, pieces[0], pieces[1]), NONE);
            }
        }
        Check.due("room(3, 1)", x.room(3, 1), 0);
        Check.due("changes()", x.changes(), 3);
    }

    private static void oneAtLeast() {
        Check.sentence("Pieces (as in write): n 1 at least");
        ExtentVolume x = Check.fullVolume();
        for (int n : Check.BELOW_ONE) {
            Check.due("punch(0, 5, " + n + ")", x.punch(0, 5, n), NONE);
        }
        Check.due("room(3, 1)", x.room(3, 1), 0);
        Check.due("punch(0, 5, 1)", x.punch(0, 5, 1), 1);
    }
}
