/** Promise 11: uses. */
public final class UsesTest {
    private static final int NONE = ExtentVolume.NONE;

    public static void main(String[] args) {
        eachCallThatMovesPieces();
        noneToEight();
        noBlock();
        Check.end();
    }

    private static void eachCallThatMovesPieces() {
        Check.sentence("How many uses a block has: after each kind of change");
        ExtentVolume x = new ExtentVolume();
        x.write(2, 0, 64, 1);
        Check.due("uses(127)", x.uses(127), 0);
        Check.due("uses(128)", x.uses(128), 1);
        Check.due("uses(191)", x.uses(191), 1);
        x.share(2, 0, 63, 1);
        x.share(0, 1, 63, 1);
        Check.due("uses(191) of three", x.uses(191), 3);
        x.write(0, 63, 1, 5);
        Check.due("uses(191) after a write", x.uses(191), 2);
        x.punch(2, 63, 1);
        Check.due("uses(191) after punch", x.uses(191), 1);
        x.pack(1);
        Check.due("uses(191) after pack", x.uses(191), 0);
        x.back(1);
        Check.due("uses(191) after back", x.uses(191), 1);
    }

    private static void noneToEight() {
        Check.sentence("How many uses a block has: 0 to 8");
        ExtentVolume x = new ExtentVolume();
        Check.due("uses(0) of a free block", x.uses(0), 0);
        x.write(0, 63, 1, 1);
        for (int to = 1; to < 8; to++) {
            Check.due("uses(0)", x.uses(0), to);
            x.share(0, to, 63, 1);
        }
        Check.due("uses(0) of all files", x.uses(0), 8);
        Check.due("uses(1)", x.uses(1), 0);
    }

    private static void noBlock() {
        Check.sentence("NONE if there is none");
        ExtentVolume x = Check.fullVolume();
        int[] blocks = {-1, -2, -64, -192, 192, 193, 256, 512, -2147483648, 2147483647};
        for (int block : blocks) {
            Check.due("uses(" + block + ")", x.uses(block), NONE);
        }
        Check.due("uses(0)", x.uses(0), 1);
        Check.due("uses(191)", x.uses(191), 1);
    }
}
