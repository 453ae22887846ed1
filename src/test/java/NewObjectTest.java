/** Promise 1: a new object. */
public final class NewObjectTest {
    private static final int NONE = ExtentVolume.NONE;

    public static void main(String[] args) {
        piecesAreHoles();
        blocksAreFree();
        Check.end();
    }

    private static void piecesAreHoles() {
        for (int file = 0; file < 8; file++) {
            ExtentVolume x = new ExtentVolume();
            for (int piece = 0; piece < 64; piece++) {
                Check.places("new", x, file, piece, NONE);
                Check.ints("new", x, file, piece, 0);
            }
            Check.due("extents(" + file + ")", x.extents(file), 0);
            Check.due("changes()", x.changes(), 0);
            Check.due("back(1)", x.back(1), false);
            Check.due("settle()", x.settle(), 0);
        }
    }

    private static void blocksAreFree() {
        ExtentVolume x = new ExtentVolume();
        for (int block = 0; block < 192; block++) {
            Check.due("uses(" + block + ")", x.uses(block), 0);
        }
        Check.freeExtents("new", x, 0, 0, 64);
        Check.freeExtents("new", x, 1, 64, 64);
        Check.freeExtents("new", x, 2, 128, 64);
        Check.due("room(3, 0)", x.room(3, 0), 3);
        Check.due("room(3, 1)", x.room(3, 1), 192);
    }
}
