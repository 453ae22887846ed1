/** Promise 1: a new object. */
public final class NewObjectTest {
    private static final int NONE = ExtentVolume.NONE;

    public static void main(String[] args) {
        blocksAreFree();
        blocksAreZero();
        piecesAreHoles();
        noChanges();
        eachObjectByItself();
        Check.end();
    }

    private static void blocksAreFree() {
        Check.sentence("All blocks free");
        ExtentVolume x = new ExtentVolume();
        for (int block = 0; block < 192; block++) {
            Check.due("uses(" + block + ")", x.uses(block), 0);
        }
        Check.freeExtents("new", x, 0, 0, 64);
        Check.freeExtents("new", x, 1, 64, 64);
        Check.freeExtents("new", x, 2, 128, 64);
        Check.due("room(3, 0)", x.room(3, 0), 3);
        Check.due("room(3, 1)", x.room(3, 1), 192);
    }

    private static void blocksAreZero() {
        Check.sentence("and 0");
        for (int file = 0; file < 8; file++) {
            ExtentVolume x = new ExtentVolume();
            for (int piece = 0; piece < 64; piece++) {
                Check.ints("new", x, file, piece, 0);
            }
        }
    }

    private static void piecesAreHoles() {
        Check.sentence("all pieces holes");
        for (int file = 0; file < 8; file++) {
            ExtentVolume x = new ExtentVolume();
            for (int piece = 0; piece < 64; piece++) {
                Check.places("new", x, file, piece, NONE);
            }
            Check.due("extents(" + file + ")", x.extents(file), 0);
            Check.due("punch(" + file + ", 0, 64)", x.punch(file, 0, 64), 0);
        }
    }

    private static void noChanges() {
        Check.sentence("no changes");
        ExtentVolume x = new ExtentVolume();
        Check.due("changes()", x.changes(), 0);
        for (int n = 1; n <= 4; n++) {
            Check.due("back(" + n + ")", x.back(n), false);
        }
        Check.due("settle()", x.settle(), 0);
    }

    private static void eachObjectByItself() {
        Check.sentence("A new object, while there are others");
        ExtentVolume full = Check.fullVolume();
        ExtentVolume x = new ExtentVolume();
        Check.due("room(3, 1)", x.room(3, 1), 192);
        Check.due("changes()", x.changes(), 0);
        x.write(0, 0, 1, 77);
        Check.due("the other one: read(0, 0)", full.read(0, 0), 0);
        Check.due("the other one: changes()", full.changes(), 3);
    }
}
