/** Promise 5: share. */
public final class ShareTest {
    private static final int NONE = ExtentVolume.NONE;

    public static void main(String[] args) {
        whereThoseOfFileAre();
        orHoles();
        firstAndLastPieces();
        howManyAreNoHoles();
        oldBlocksAreLeft();
        sharedAgain();
        inAFullVolume();
        noSuchFile();
        noSuchPiece();
        bothAreTheSame();
        oneAtLeast();
        Check.end();
    }

    private static void whereThoseOfFileAre() {
        Check.sentence("Pieces of file 'to' are where those of file are");
        ExtentVolume x = new ExtentVolume();
        x.write(0, 1, 2, 10);
        x.write(4, 0, 5, 50);
        Check.due("share(0, 4, 0, 4)", x.share(0, 4, 0, 4), 2);
        Check.places("shared", x, 4, 0, NONE, 0, 1, NONE, 68);
        Check.ints("shared", x, 4, 0, 0, 10, 11, 0, 54);
        Check.places("the first file", x, 0, 0, NONE, 0, 1, NONE, NONE);
        Check.due("uses(0)", x.uses(0), 2);
    }

    private static void orHoles() {
        Check.sentence("or holes");
        ExtentVolume x = new ExtentVolume();
        x.write(0, 0, 64, 10);
        Check.due("share(5, 0, 1, 62)", x.share(5, 0, 1, 62), 0);
        Check.places("the first ones", x, 0, 0, 0, NONE);
        Check.places("the last ones", x, 0, 62, NONE, 63);
        Check.freeExtents("free now", x, 0, 1, 62);
        Check.due("changes()", x.changes(), 2);
    }

    private static void firstAndLastPieces() {
        Check.sentence("Pieces (as in write): within 0..63");
        ExtentVolume x = new ExtentVolume();
        x.write(0, 0, 64, 1);
        Check.due("share(0, 7, 0, 1)", x.share(0, 7, 0, 1), 1);
        Check.due("share(0, 7, 63, 1)", x.share(0, 7, 63, 1), 1);
        Check.places("the first ones", x, 7, 0, 0, NONE);
        Check.places("the last ones", x, 7, 62, NONE, 63);
        Check.due("share(0, 7, 60, 4)", x.share(0, 7, 60, 4), 4);
        Check.due("share(7, 6, 0, 64)", x.share(7, 6, 0, 64), 5);
    }

    private static void howManyAreNoHoles() {
        Check.sentence("how many are no holes then");
        ExtentVolume x = new ExtentVolume();
        x.write(0, 0, 64, 1);
        Check.due("all", x.share(0, 1, 0, 64), 64);
        Check.due("all, though nothing is new", x.share(0, 1, 0, 64), 64);
        x.punch(0, 10, 1);
        Check.due("all but one", x.share(0, 1, 0, 64), 63);
        Check.due("none", x.share(2, 1, 0, 64), 0);
        Check.due("none of a row", x.share(0, 1, 10, 1), 0);
    }

    private static void oldBlocksAreLeft() {
        Check.sentence("are where those of file are: and no more where they were");
        ExtentVolume x = new ExtentVolume();
        x.write(0, 0, 3, 10);
        x.write(1, 0, 3, 20);
        x.share(1, 2, 2, 1);
        Check.due("share(0, 1, 0, 3)", x.share(0, 1, 0, 3), 3);
        Check.due("uses(64)", x.uses(64), 0);
        Check.due("uses(66)", x.uses(66), 1);
        Check.freeExtents("left", x, 1, 64, 2, 67, 61);
        Check.ints("still there", x, 2, 2, 22);
    }

    private static void sharedAgain() {
        Check.sentence("are where those of file are: also if they were there before");
        ExtentVolume x = new ExtentVolume();
        x.write(0, 0, 2, 10);
        for (int to = 1; to < 8; to++) {
            Check.due("share(0, " + to + ", 0, 2)", x.share(0, to, 0, 2), 2);
        }
        Check.due("uses(1)", x.uses(1), 8);
        Check.due("share(3, 0, 0, 2)", x.share(3, 0, 0, 2), 2);
        Check.due("uses(1)", x.uses(1), 8);
        Check.due("share(0, 1, 0, 2)", x.share(0, 1, 0, 2), 2);
        Check.due("uses(0)", x.uses(0), 8);
        Check.due("room(0, 1)", x.room(0, 1), 62);
    }

    private static void inAFullVolume() {
        Check.sentence("share needs no free block");
        ExtentVolume x = Check.fullVolume();
        Check.due("share(0, 3, 0, 64)", x.share(0, 3, 0, 64), 64);
        Check.due("share(2, 1, 0, 64)", x.share(2, 1, 0, 64), 64);
        Check.freeExtents("group 1 is left", x, 1, 64, 64);
        Check.due("room(3, 1)", x.room(3, 1), 64);
    }

    private static void noSuchFile() {
        Check.sentence("NONE if one is none: no such file");
        ExtentVolume x = Check.fullVolume();
        for (int file : Check.NO_FILES) {
            Check.due("share(" + file + ", 0, 0, 1)", x.share(file, 0, 0, 1), NONE);
            Check.due("share(0, " + file + ", 0, 1)", x.share(0, file, 0, 1), NONE);
            Check.due("share(" + file + ", " + file + ", 0, 1)", x.share(file, file, 0, 1), NONE);
        }
        Check.due("room(3, 1)", x.room(3, 1), 0);
        Check.due("changes()", x.changes(), 3);
    }

    private static void noSuchPiece() {
        Check.sentence("NONE if one is none: no such piece");
        ExtentVolume x = Check.fullVolume();
        for (int to = 1; to < 8; to += 6) {
            for (int[] pieces : Check.NO_PIECES) {
                String call = "share(0, " + to + ", " + pieces[0] + ", " + pieces[1] + ")";
                Check.due(call, x.share(0, to, pieces[0], pieces[1]), NONE);
            }
            Check.due("extents(" + to + ")", x.extents(to), to == 1 ? 1 : 0);
        }
        Check.due("uses(0)", x.uses(0), 1);
        Check.due("changes()", x.changes(), 3);
    }

    private static void bothAreTheSame() {
        Check.sentence("NONE if .. both are the same");
        ExtentVolume x = Check.fullVolume();
        for (int file = 0; file < 8; file++) {
            Check.due("share(" + file + ", " + file + ", 0, 64)", x.share(file, file, 0, 64), NONE);
        }
        Check.due("uses(0)", x.uses(0), 1);
        Check.due("changes()", x.changes(), 3);
    }

    private static void oneAtLeast() {
        Check.sentence("Pieces (as in write): n 1 at least");
        ExtentVolume x = Check.fullVolume();
        for (int n : Check.BELOW_ONE) {
            Check.due("share(0, 3, 5, " + n + ")", x.share(0, 3, 5, n), NONE);
        }
        Check.due("uses(5)", x.uses(5), 1);
        Check.due("share(0, 3, 5, 1)", x.share(0, 3, 5, 1), 1);
    }
}
