/** Promise 11: uses. */
public final class UsesTest {
    private static final int NONE = ExtentVolume.NONE;

    public static void main(String[] args) {
        ExtentVolume x = new ExtentVolume();
        x.write(2, 0, 64, 1);
        Check.due("uses(127)", x.uses(127), 0);
        Check.due("uses(128)", x.uses(128), 1);
        Check.due("uses(191)", x.uses(191), 1);
        x.share(2, 0, 63, 1);
        x.share(0, 1, 63, 1);
        Check.due("uses(191) of three", x.uses(191), 3);
        x.write(0, 63, 1, 5);
        Check.due("uses(191) after a write", x.uses(191), 2);
        x.punch(2, 63, 1);
        Check.due("uses(191) after punch", x.uses(191), 1);
        x.pack(1);
        Check.due("uses(191) after pack", x.uses(191), 0);
        x.back(1);
        Check.due("uses(191) after back", x.uses(191), 1);
        Check.due("uses(-1)", x.uses(-1), NONE);
        Check.due("uses(192)", x.uses(192), NONE);
        Check.due("uses(min)", x.uses(Integer.MIN_VALUE), NONE);
        Check.due("uses(max)", x.uses(Integer.MAX_VALUE), NONE);
        Check.end();
    }
}
