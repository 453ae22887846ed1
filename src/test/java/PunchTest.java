/** Promise 4: punch. */
public final class PunchTest {
    private static final int NONE = ExtentVolume.NONE;

    public static void main(String[] args) {
        piecesBecomeHoles();
        sharedBlocksStay();
        wrongInputs();
        Check.end();
    }

    private static void piecesBecomeHoles() {
        ExtentVolume x = new ExtentVolume();
        x.write(0, 2, 4, 10);
        Check.due("punch(0, 3, 2)", x.punch(0, 3, 2), 2);
        Check.places("punched", x, 0, 2, 0, NONE, NONE, 3);
        Check.ints("punched", x, 0, 2, 10, 0, 0, 13);
        Check.freeExtents("punched", x, 0, 1, 2, 4, 60);
        Check.due("punch(0, 0, 64)", x.punch(0, 0, 64), 2);
        Check.freeExtents("all punched", x, 0, 0, 64);
        Check.due("punch(0, 0, 64) of holes", x.punch(0, 0, 64), 0);
        Check.due("changes()", x.changes(), 4);
    }

    private static void sharedBlocksStay() {
        ExtentVolume x = new ExtentVolume();
        x.write(0, 0, 4, 10);
        x.share(0, 1, 1, 2);
        Check.due("punch(0, 0, 4)", x.punch(0, 0, 4), 2);
        Check.ints("the other file", x, 1, 0, 0, 11, 12, 0);
        Check.due("punch(1, 0, 2)", x.punch(1, 0, 2), 1);
        Check.due("room(0, 1)", x.room(0, 1), 63);
    }

    private static void wrongInputs() {
        ExtentVolume x = new ExtentVolume();
        x.write(0, 0, 64, 1);
        x.write(1, 0, 64, 1);
        x.settle();
        Check.due("punch(-1, 0, 1)", x.punch(-1, 0, 1), NONE);
        Check.due("punch(8, 0, 1)", x.punch(8, 0, 1), NONE);
        Check.due("punch(0, -1, 2)", x.punch(0, -1, 2), NONE);
        Check.due("punch(0, 63, 2)", x.punch(0, 63, 2), NONE);
        Check.due("punch(0, 64, 1)", x.punch(0, 64, 1), NONE);
        Check.due("punch(0, 5, 0)", x.punch(0, 5, 0), NONE);
        Check.due("punch(0, 5, max)", x.punch(0, 5, Integer.MAX_VALUE), NONE);
        Check.due("changes()", x.changes(), 0);
        Check.due("room(3, 1)", x.room(3, 1), 64);
    }
}
