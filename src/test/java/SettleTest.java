/** Promise 9: settle. */
public final class SettleTest {
    public static void main(String[] args) {
        howManyCould();
        noneAnyMore();
        whatIsThereStays();
        changesBehindIt();
        Check.end();
    }

    private static void howManyCould() {
        Check.sentence("how many could");
        for (int count = 0; count <= 6; count++) {
            ExtentVolume x = new ExtentVolume();
            for (int i = 0; i < count; i++) {
                x.write(0, 0, 1, i);
            }
            Check.due("settle() of " + count, x.settle(), count < 4 ? count : 4);
            Check.due("settle() again", x.settle(), 0);
        }
        ExtentVolume x = Check.fullVolume();
        x.back(2);
        Check.due("settle() after back(2) of 3", x.settle(), 1);
    }

    private static void noneAnyMore() {
        Check.sentence("None can be taken back any more");
        for (int count = 0; count <= 5; count++) {
            ExtentVolume x = new ExtentVolume();
            for (int i = 0; i < count; i++) {
                x.write(0, 0, 1, i);
            }
            x.settle();
            Check.due("changes()", x.changes(), 0);
            for (int n = 1; n <= 4; n++) {
                Check.due("back(" + n + ")", x.back(n), false);
            }
        }
    }

    private static void whatIsThereStays() {
        Check.sentence("None can be taken back any more: and all else stays");
        ExtentVolume x = new ExtentVolume();
        for (int i = 1; i <= 6; i++) {
            x.write(0, 0, i, 10 * i);
        }
        x.share(0, 1, 2, 2);
        x.settle();
        Check.ints("settled", x, 0, 0, 60, 61, 62, 63, 64, 65, 0);
        Check.places("settled", x, 1, 1, ExtentVolume.NONE, 2, 3, ExtentVolume.NONE);
        Check.due("uses(2)", x.uses(2), 2);
        Check.due("room(0, 1)", x.room(0, 1), 58);
    }

    private static void changesBehindIt() {
        Check.sentence("None can be taken back any more: but what changes after it");
        ExtentVolume x = new ExtentVolume();
        x.write(0, 0, 3, 60);
        x.settle();
        x.punch(0, 0, 1);
        x.punch(0, 1, 1);
        Check.due("changes()", x.changes(), 2);
        Check.due("back(3)", x.back(3), false);
        Check.due("back(2)", x.back(2), true);
        Check.ints("as at settle", x, 0, 0, 60, 61, 62);
        Check.due("back(1)", x.back(1), false);
        for (int i = 0; i < 5; i++) {
            x.write(0, 0, 1, i);
        }
        Check.due("settle() of five more", x.settle(), 4);
    }
}
