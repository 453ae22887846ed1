/** Promise 15: order and limits. */
public final class LimitsTest {
    private static final int NONE = ExtentVolume.NONE;
    private static final int FULL = ExtentVolume.FULL;

    public static void main(String[] args) {
        noneBeforeFull();
        refusalsChangeNothing();
        intsWrap();
        countsBelowOne();
        theFifthLatestIsGone();
        Check.end();
    }

    private static void noneBeforeFull() {
        ExtentVolume x = Check.fullVolume();
        Check.due("write(3, 0, 1, 1)", x.write(3, 0, 1, 1), FULL);
        Check.due("write(8, 0, 1, 1)", x.write(8, 0, 1, 1), NONE);
        Check.due("write(3, 60, 5, 1)", x.write(3, 60, 5, 1), NONE);
        Check.due("pack(0)", x.pack(0), FULL);
        Check.due("pack(8)", x.pack(8), NONE);
    }

    private static void refusalsChangeNothing() {
        ExtentVolume x = Check.fullVolume();
        x.punch(0, 5, 1);
        // Piece 4 is alone, 5 a hole, and 6 shares its block: two to place, and one free block.
        x.share(0, 3, 6, 1);
        x.settle();
        Check.due("write(0, 4, 3, 77)", x.write(0, 4, 3, 77), FULL);
        Check.due("pack(0)", x.pack(0), FULL);
        Check.due("punch(0, 0, 65)", x.punch(0, 0, 65), NONE);
        Check.due("share(0, 1, 0, 65)", x.share(0, 1, 0, 65), NONE);
        Check.due("back(1)", x.back(1), false);
        Check.due("changes()", x.changes(), 0);
        Check.places("refused", x, 0, 3, 3, 4, NONE, 6, 7);
        Check.ints("refused", x, 0, 3, 3, 4, 0, 6, 7);
        Check.due("uses(6)", x.uses(6), 2);
        Check.freeExtents("refused", x, 0, 5, 1);
    }

    private static void intsWrap() {
        ExtentVolume x = new ExtentVolume();
        x.write(0, 0, 4, 2147483646);
        Check.ints("wrap", x, 0, 0, 2147483646, 2147483647, -2147483648, -2147483647);
        x.write(0, 1, 2, 2147483647);
        Check.ints("wrap in place", x, 0, 0, 2147483646, 2147483647, -2147483648, -2147483647);
        x.pack(0);
        Check.ints("packed", x, 0, 0, 2147483646, 2147483647, -2147483648, -2147483647);
    }

    private static void countsBelowOne() {
        ExtentVolume x = new ExtentVolume();
        x.write(0, 0, 4, 1);
        int[] counts = {0, -1, -64, -2147483647, -2147483648};
        for (int n : counts) {
            Check.due("write(0, 0, " + n + ", 5)", x.write(0, 0, n, 5), NONE);
            Check.due("punch(0, 0, " + n + ")", x.punch(0, 0, n), NONE);
            Check.due("share(0, 1, 0, " + n + ")", x.share(0, 1, 0, n), NONE);
            Check.due("back(" + n + ")", x.back(n), false);
        }
        Check.due("changes()", x.changes(), 1);
        Check.ints("nothing changes", x, 0, 0, 1, 2, 3, 4, 0);
    }

    private static void theFifthLatestIsGone() {
        ExtentVolume x = new ExtentVolume();
        for (int i = 0; i < 5; i++) {
            x.write(0, 0, 1, i);
        }
        Check.due("back(4)", x.back(4), true);
        Check.due("changes()", x.changes(), 0);
        Check.due("back(1)", x.back(1), false);
        Check.ints("the first change stays", x, 0, 0, 0);
        Check.places("the first change stays", x, 0, 0, 0);
    }
}
