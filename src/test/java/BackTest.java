/** Promise 7: back. */
public final class BackTest {
    private static final int NONE = ExtentVolume.NONE;

    public static void main(String[] args) {
        eachKindOfChange();
        severalAtOnce();
        oldIntsComeBack();
        changesAfterBack();
        notSoMany();
        Check.end();
    }

    private static void eachKindOfChange() {
        ExtentVolume x = new ExtentVolume();
        x.write(0, 0, 4, 10);
        x.share(0, 1, 0, 2);
        x.punch(0, 1, 2);
        x.pack(0);
        Check.due("back(1) of pack", x.back(1), true);
        Check.places("pack", x, 0, 0, 0, NONE, NONE, 3);
        Check.due("back(1) of punch", x.back(1), true);
        Check.places("punch", x, 0, 0, 0, 1, 2, 3);
        Check.ints("punch", x, 0, 0, 10, 11, 12, 13);
        Check.due("uses(1)", x.uses(1), 2);
        Check.due("back(1) of share", x.back(1), true);
        Check.places("share", x, 1, 0, NONE, NONE);
        Check.due("uses(1)", x.uses(1), 1);
        Check.due("back(1) of write", x.back(1), true);
        Check.places("write", x, 0, 0, NONE, NONE, NONE, NONE);
        Check.freeExtents("write", x, 0, 0, 64);
        Check.due("back(1)", x.back(1), false);
    }

    private static void severalAtOnce() {
        for (int n = 1; n <= 4; n++) {
            ExtentVolume x = new ExtentVolume();
            for (int i = 0; i < 6; i++) {
                x.write(0, i, 1, 10 * i);
            }
            Check.due("back(" + n + ")", x.back(n), true);
            Check.due("extents(0)", x.extents(0), 1);
            Check.due("room(0, 1)", x.room(0, 1), 58 + n);
            Check.places("the last one that stays", x, 0, 5 - n, 5 - n, NONE);
            Check.due("changes()", x.changes(), 4 - n);
        }
    }

    private static void oldIntsComeBack() {
        ExtentVolume x = new ExtentVolume();
        x.write(0, 0, 2, 10);
        x.write(0, 0, 2, 20);
        x.punch(0, 0, 2);
        x.write(3, 0, 2, 30);
        Check.places("the same blocks", x, 3, 0, 0, 1);
        Check.due("back(2)", x.back(2), true);
        Check.ints("before punch", x, 0, 0, 20, 21);
        Check.places("no more", x, 3, 0, NONE, NONE);
        Check.due("back(1)", x.back(1), true);
        Check.ints("before the second write", x, 0, 0, 10, 11);
    }

    private static void changesAfterBack() {
        ExtentVolume x = new ExtentVolume();
        for (int i = 0; i < 7; i++) {
            x.write(0, 0, 1, i);
        }
        Check.due("back(2)", x.back(2), true);
        Check.ints("back(2)", x, 0, 0, 4);
        x.write(0, 0, 1, 100);
        Check.due("changes()", x.changes(), 3);
        Check.due("back(1)", x.back(1), true);
        Check.ints("back(1)", x, 0, 0, 4);
        Check.due("back(2)", x.back(2), true);
        Check.ints("back(2) again", x, 0, 0, 2);
        Check.due("back(1)", x.back(1), false);
        Check.ints("nothing changes", x, 0, 0, 2);
    }

    private static void notSoMany() {
        ExtentVolume x = new ExtentVolume();
        x.write(0, 0, 1, 1);
        x.write(0, 1, 1, 2);
        Check.due("back(3)", x.back(3), false);
        Check.due("back(5)", x.back(5), false);
        Check.due("back(max)", x.back(Integer.MAX_VALUE), false);
        Check.due("changes()", x.changes(), 2);
        Check.ints("nothing changes", x, 0, 0, 1, 2);
        x.write(0, 2, 1, 3);
        x.write(0, 3, 1, 4);
        x.write(0, 4, 1, 5);
        Check.due("back(5) of five", x.back(5), false);
        Check.ints("nothing changes", x, 0, 0, 1, 2, 3, 4, 5);
    }
}
