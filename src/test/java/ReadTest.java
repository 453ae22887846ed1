/** Promise 3: read. */
public final class ReadTest {
    public static void main(String[] args) {
        theIntOfAPiece();
        greatestAndLeastInts();
        holes();
        holesWhereAnIntWas();
        noFile();
        noPiece();
        Check.end();
    }

    private static void theIntOfAPiece() {
        Check.sentence("The int of a piece");
        ExtentVolume x = new ExtentVolume();
        x.write(0, 0, 3, -1);
        x.write(7, 62, 2, 40);
        Check.ints("written", x, 0, 0, -1, 0, 1, 0);
        Check.ints("written", x, 7, 61, 0, 40, 41);
        x.share(7, 2, 61, 3);
        Check.ints("shared", x, 2, 61, 0, 40, 41);
        x.punch(7, 62, 1);
        Check.ints("still shared", x, 2, 61, 0, 40, 41);
    }

    private static void greatestAndLeastInts() {
        Check.sentence("The int of a piece: NONE and FULL are ints like others");
        int[] ints = {0, -1, -2, 2147483647, -2147483648};
        ExtentVolume x = new ExtentVolume();
        for (int i = 0; i < ints.length; i++) {
            x.write(1, i, 1, ints[i]);
        }
        Check.ints("written", x, 1, 0, ints);
    }

    private static void holes() {
        Check.sentence("0 for a hole");
        ExtentVolume x = new ExtentVolume();
        x.write(0, 1, 1, 5);
        Check.ints("around a piece", x, 0, 0, 0, 5, 0);
        Check.ints("at the ends", x, 1, 0, 0);
        Check.ints("at the ends", x, 1, 63, 0);
    }

    private static void holesWhereAnIntWas() {
        Check.sentence("0 for a hole: whatever was there before");
        ExtentVolume x = new ExtentVolume();
        x.write(0, 0, 2, 10);
        x.punch(0, 0, 1);
        Check.ints("punched", x, 0, 0, 0, 11);
        x.share(1, 0, 0, 2);
        Check.ints("shared holes", x, 0, 0, 0, 0);
        x.back(2);
        x.back(1);
        Check.ints("taken back", x, 0, 0, 0, 0);
    }

    private static void noFile() {
        Check.sentence("0 .. if there is none: no file");
        ExtentVolume x = filled();
        for (int file : Check.NO_FILES) {
            Check.due("read(" + file + ", 0)", x.read(file, 0), 0);
            Check.due("read(" + file + ", 63)", x.read(file, 63), 0);
        }
    }

    private static void noPiece() {
        Check.sentence("0 .. if there is none: no piece");
        ExtentVolume x = filled();
        int[] pieces = {-1, -64, 64, 65, 128, -2147483648, 2147483647};
        for (int file = 0; file < 8; file++) {
            for (int piece : pieces) {
                Check.due("read(" + file + ", " + piece + ")", x.read(file, piece), 0);
            }
        }
        Check.due("read(max, max)", x.read(2147483647, 2147483647), 0);
    }

    /** No piece is a hole, and no int is 0. */
    private static ExtentVolume filled() {
        ExtentVolume x = new ExtentVolume();
        x.write(0, 0, 64, 1000);
        for (int to = 1; to < 8; to++) {
            x.share(0, to, 0, 64);
        }
        return x;
    }
}
