/** Promise 10: place. */
public final class PlaceTest {
    private static final int NONE = ExtentVolume.NONE;

    public static void main(String[] args) {
        theBlockOfAPiece();
        holes();
        noFile();
        noPiece();
        Check.end();
    }

    private static void theBlockOfAPiece() {
        Check.sentence("The block of a piece");
        ExtentVolume x = Check.fullVolume();
        for (int file = 0; file < 3; file++) {
            Check.places("the first one of a group", x, file, 0, 64 * file);
            Check.places("the last one of a group", x, file, 63, 64 * file + 63);
        }
        x.share(2, 7, 63, 1);
        Check.places("shared", x, 7, 62, NONE, 191);
    }

    private static void holes() {
        Check.sentence("NONE for a hole");
        ExtentVolume x = Check.fullVolume();
        Check.places("never written", x, 3, 0, NONE, NONE);
        x.punch(2, 63, 1);
        Check.places("punched", x, 2, 62, 190, NONE);
        x.share(3, 0, 0, 1);
        Check.places("shared with a hole", x, 0, 0, NONE, 1);
        x.back(2);
        Check.places("taken back", x, 2, 63, 191);
        Check.places("taken back", x, 0, 0, 0);
    }

    private static void noFile() {
        Check.sentence("NONE .. if there is none: no file");
        ExtentVolume x = filled();
        for (int file : Check.NO_FILES) {
            Check.due("place(" + file + ", 0)", x.place(file, 0), NONE);
            Check.due("place(" + file + ", 63)", x.place(file, 63), NONE);
        }
    }

    private static void noPiece() {
        Check.sentence("NONE .. if there is none: no piece");
        ExtentVolume x = filled();
        int[] pieces = {-1, -64, 64, 65, 128, -2147483648, 2147483647};
        for (int file = 0; file < 8; file++) {
            for (int piece : pieces) {
                Check.due("place(" + file + ", " + piece + ")", x.place(file, piece), NONE);
            }
        }
        Check.due("place(max, max)", x.place(2147483647, 2147483647), NONE);
    }

    /** No piece is a hole. */
    private static ExtentVolume filled() {
        ExtentVolume x = new ExtentVolume();
        x.write(0, 0, 64, 1000);
        for (int to = 1; to < 8; to++) {
            x.share(0, to, 0, 64);
        }
        return x;
    }
}
