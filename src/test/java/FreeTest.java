/** Promise 13: free. */
public final class FreeTest {
    private static final int NONE = ExtentVolume.NONE;

    public static void main(String[] args) {
        shorterFirstThenLower();
        extentsEndWithTheirGroup();
        mostExtents();
        wrongInputs();
        Check.end();
    }

    private static void shorterFirstThenLower() {
        ExtentVolume x = Check.fullVolume();
        x.punch(1, 0, 3);
        x.punch(1, 10, 1);
        x.punch(1, 20, 2);
        x.punch(1, 30, 1);
        x.punch(1, 61, 3);
        Check.freeExtents("sorted", x, 1, 74, 1, 94, 1, 84, 2, 64, 3, 125, 3);
        Check.freeExtents("none", x, 0);
        x.punch(1, 11, 1);
        Check.freeExtents("one grew", x, 1, 94, 1, 74, 2, 84, 2, 64, 3, 125, 3);
        x.punch(1, 12, 8);
        Check.freeExtents("two met", x, 1, 94, 1, 64, 3, 125, 3, 74, 12);
    }

    private static void extentsEndWithTheirGroup() {
        ExtentVolume x = Check.fullVolume();
        x.punch(0, 62, 2);
        x.punch(1, 0, 3);
        x.punch(1, 63, 1);
        x.punch(2, 0, 1);
        Check.freeExtents("group 0", x, 0, 62, 2);
        Check.freeExtents("group 1", x, 1, 127, 1, 64, 3);
        Check.freeExtents("group 2", x, 2, 128, 1);
    }

    private static void mostExtents() {
        ExtentVolume x = Check.fullVolume();
        int[] due = new int[64];
        for (int i = 0; i < 32; i++) {
            x.punch(2, 2 * i + 1, 1);
            due[2 * i] = 128 + 2 * i + 1;
            due[2 * i + 1] = 1;
        }
        Check.freeExtents("each second block", x, 2, due);
    }

    private static void wrongInputs() {
        ExtentVolume x = new ExtentVolume();
        for (int what = 0; what < 2; what++) {
            Check.due("free(-1, 0, " + what + ")", x.free(-1, 0, what), NONE);
            Check.due("free(3, 0, " + what + ")", x.free(3, 0, what), NONE);
            Check.due("free(max, 0, " + what + ")", x.free(Integer.MAX_VALUE, 0, what), NONE);
            Check.due("free(min, 0, " + what + ")", x.free(Integer.MIN_VALUE, 0, what), NONE);
            Check.due("free(0, -1, " + what + ")", x.free(0, -1, what), NONE);
            Check.due("free(0, 1, " + what + ")", x.free(0, 1, what), NONE);
            Check.due("free(0, max, " + what + ")", x.free(0, Integer.MAX_VALUE, what), NONE);
            Check.due("free(0, min, " + what + ")", x.free(0, Integer.MIN_VALUE, what), NONE);
        }
        Check.due("free(0, 0, -1)", x.free(0, 0, -1), NONE);
        Check.due("free(0, 0, 2)", x.free(0, 0, 2), NONE);
    }
}
