/** Promise 12: extents. */
public final class ExtentsTest {
    private static final int NONE = ExtentVolume.NONE;

    public static void main(String[] args) {
        rowsAndHoles();
        groupsPart();
        fallingBlocksPart();
        wrongInputs();
        Check.end();
    }

    private static void rowsAndHoles() {
        ExtentVolume x = new ExtentVolume();
        Check.due("extents(0)", x.extents(0), 0);
        x.write(0, 0, 64, 1);
        Check.due("extents(0) of one row", x.extents(0), 1);
        x.punch(0, 30, 1);
        Check.due("extents(0) around a hole", x.extents(0), 2);
        x.punch(0, 0, 1);
        x.punch(0, 63, 1);
        Check.due("extents(0) with holes at the ends", x.extents(0), 2);
        x.share(0, 1, 29, 3);
        Check.due("extents(1) of shared pieces", x.extents(1), 2);
    }

    private static void groupsPart() {
        ExtentVolume x = new ExtentVolume();
        x.write(0, 0, 63, 1);
        x.write(3, 5, 1, 1);
        x.write(3, 6, 1, 1);
        Check.places("over the end of group 0", x, 3, 5, 63, 64);
        Check.due("extents(3)", x.extents(3), 2);
    }

    private static void fallingBlocksPart() {
        ExtentVolume x = new ExtentVolume();
        x.write(0, 3, 1, 1);
        x.write(0, 2, 1, 1);
        x.write(0, 1, 1, 1);
        Check.places("falling", x, 0, 1, 2, 1, 0);
        Check.due("extents(0)", x.extents(0), 3);
    }

    private static void wrongInputs() {
        ExtentVolume x = new ExtentVolume();
        Check.due("extents(-1)", x.extents(-1), NONE);
        Check.due("extents(8)", x.extents(8), NONE);
        Check.due("extents(min)", x.extents(Integer.MIN_VALUE), NONE);
        Check.due("extents(max)", x.extents(Integer.MAX_VALUE), NONE);
        Check.due("extents(7)", x.extents(7), 0);
    }
}
