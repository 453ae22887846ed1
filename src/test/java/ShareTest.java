/** Promise 5: share. */
public final class ShareTest {
    private static final int NONE = ExtentVolume.NONE;

    public static void main(String[] args) {
        piecesAndHolesAreShared();
        oldBlocksAreLeft();
        sharedTwice();
        wrongInputs();
        Check.end();
    }

    private static void piecesAndHolesAreShared() {
        ExtentVolume x = new ExtentVolume();
        x.write(0, 1, 2, 10);
        x.write(4, 0, 5, 50);
        Check.due("share(0, 4, 0, 4)", x.share(0, 4, 0, 4), 2);
        Check.places("shared", x, 4, 0, NONE, 0, 1, NONE, 68);
        Check.ints("shared", x, 4, 0, 0, 10, 11, 0, 54);
        Check.places("the first file", x, 0, 0, NONE, 0, 1, NONE, NONE);
        Check.due("uses(0)", x.uses(0), 2);
        Check.due("share of holes", x.share(5, 0, 0, 64), 0);
        Check.places("holes", x, 0, 1, NONE, NONE);
        Check.due("uses(0)", x.uses(0), 1);
        Check.due("changes()", x.changes(), 4);
    }

    private static void oldBlocksAreLeft() {
        ExtentVolume x = new ExtentVolume();
        x.write(0, 0, 3, 10);
        x.write(1, 0, 3, 20);
        x.share(1, 2, 2, 1);
        Check.due("share(0, 1, 0, 3)", x.share(0, 1, 0, 3), 3);
        Check.due("uses(64)", x.uses(64), 0);
        Check.due("uses(66)", x.uses(66), 1);
        Check.freeExtents("left", x, 1, 64, 2, 67, 61);
        Check.ints("still there", x, 2, 2, 22);
    }

    private static void sharedTwice() {
        ExtentVolume x = new ExtentVolume();
        x.write(0, 0, 2, 10);
        for (int to = 1; to < 8; to++) {
            Check.due("share(0, " + to + ", 0, 2)", x.share(0, to, 0, 2), 2);
        }
        Check.due("uses(1)", x.uses(1), 8);
        Check.due("share(3, 0, 0, 2)", x.share(3, 0, 0, 2), 2);
        Check.due("uses(1)", x.uses(1), 8);
        Check.due("share(0, 1, 0, 2)", x.share(0, 1, 0, 2), 2);
        Check.due("uses(0)", x.uses(0), 8);
        Check.due("room(0, 1)", x.room(0, 1), 62);
    }

    private static void wrongInputs() {
        ExtentVolume x = new ExtentVolume();
        x.write(0, 0, 64, 1);
        x.settle();
        Check.due("share(0, 0, 0, 1)", x.share(0, 0, 0, 1), NONE);
        Check.due("share(-1, 0, 0, 1)", x.share(-1, 0, 0, 1), NONE);
        Check.due("share(8, 0, 0, 1)", x.share(8, 0, 0, 1), NONE);
        Check.due("share(0, -1, 0, 1)", x.share(0, -1, 0, 1), NONE);
        Check.due("share(0, 8, 0, 1)", x.share(0, 8, 0, 1), NONE);
        Check.due("share(0, 1, -1, 2)", x.share(0, 1, -1, 2), NONE);
        Check.due("share(0, 1, 64, 1)", x.share(0, 1, 64, 1), NONE);
        Check.due("share(0, 1, 60, 5)", x.share(0, 1, 60, 5), NONE);
        Check.due("share(0, 1, 0, 0)", x.share(0, 1, 0, 0), NONE);
        Check.due("share(0, 1, 1, max)", x.share(0, 1, 1, Integer.MAX_VALUE), NONE);
        Check.due("changes()", x.changes(), 0);
        Check.due("extents(1)", x.extents(1), 0);
        Check.due("share(0, 1, 60, 4)", x.share(0, 1, 60, 4), 4);
    }
}
