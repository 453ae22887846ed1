/** Promise 14: room. */
public final class RoomTest {
    private static final int NONE = ExtentVolume.NONE;

    public static void main(String[] args) {
        ExtentVolume x = Check.fullVolume();
        rooms("full", x, 0, 0, 0, 0, 0, 0);
        x.punch(0, 63, 1);
        x.punch(1, 0, 4);
        x.punch(1, 10, 1);
        rooms("punched", x, 1, 1, 2, 5, 0, 0);
        x.share(1, 5, 20, 10);
        x.punch(1, 20, 10);
        rooms("still used", x, 1, 1, 2, 5, 0, 0);
        x.punch(2, 0, 64);
        rooms("a whole group", x, 1, 1, 2, 5, 1, 64);
        x.back(2);
        rooms("taken back", x, 1, 1, 2, 5, 0, 0);
        wrongInputs(x);
        Check.end();
    }

    /** For each group how many free extents and blocks are due. */
    private static void rooms(String when, ExtentVolume x, int... due) {
        for (int what = 0; what < 2; what++) {
            int sum = 0;
            for (int group = 0; group < 3; group++) {
                Check.due(when + ": room(" + group + ", " + what + ")", x.room(group, what), due[2 * group + what]);
                sum += due[2 * group + what];
            }
            Check.due(when + ": room(3, " + what + ")", x.room(3, what), sum);
        }
    }

    private static void wrongInputs(ExtentVolume x) {
        for (int what = 0; what < 2; what++) {
            Check.due("room(-1, " + what + ")", x.room(-1, what), NONE);
            Check.due("room(4, " + what + ")", x.room(4, what), NONE);
            Check.due("room(min, " + what + ")", x.room(Integer.MIN_VALUE, what), NONE);
            Check.due("room(max, " + what + ")", x.room(Integer.MAX_VALUE, what), NONE);
        }
        for (int group = 0; group < 4; group++) {
            Check.due("room(" + group + ", -1)", x.room(group, -1), NONE);
            Check.due("room(" + group + ", 2)", x.room(group, 2), NONE);
            Check.due("room(" + group + ", max)", x.room(group, Integer.MAX_VALUE), NONE);
        }
    }
}
