/** Promise 14: room. */
public final class RoomTest {
    private static final int NONE = ExtentVolume.NONE;

    public static void main(String[] args) {
        allFree();
        full();
        someFree();
        mostExtents();
        overTheEndsOfGroups();
        noSuchGroup();
        otherWhats();
        Check.end();
    }

    private static void allFree() {
        Check.sentence("How many free extents a group has, or free blocks: all are free");
        rooms("new", new ExtentVolume(), 1, 64, 1, 64, 1, 64);
    }

    private static void full() {
        Check.sentence("How many free extents a group has, or free blocks: none is free");
        ExtentVolume x = Check.fullVolume();
        rooms("full", x, 0, 0, 0, 0, 0, 0);
        x.punch(1, 63, 1);
        rooms("one block", x, 0, 0, 1, 1, 0, 0);
    }

    private static void someFree() {
        Check.sentence("How many free extents a group has (what 0), or free blocks (1); of all groups for group 3");
        ExtentVolume x = Check.fullVolume();
        x.punch(0, 63, 1);
        x.punch(1, 0, 4);
        x.punch(1, 10, 1);
        rooms("punched", x, 1, 1, 2, 5, 0, 0);
        x.share(1, 5, 20, 10);
        x.punch(1, 20, 10);
        rooms("still used", x, 1, 1, 2, 5, 0, 0);
        x.punch(2, 0, 64);
        rooms("a whole group", x, 1, 1, 2, 5, 1, 64);
        x.back(2);
        rooms("taken back", x, 1, 1, 2, 5, 0, 0);
    }

    private static void mostExtents() {
        Check.sentence("How many free extents: 32 of a group and 96 of all at most");
        ExtentVolume x = Check.fullVolume();
        for (int i = 0; i < 32; i++) {
            x.punch(0, 2 * i, 1);
            x.punch(1, 2 * i + 1, 1);
            x.punch(2, 2 * i, 1);
        }
        rooms("each second block", x, 32, 32, 32, 32, 32, 32);
    }

    private static void overTheEndsOfGroups() {
        Check.sentence("of all groups for group 3: extents end with their group");
        ExtentVolume x = Check.fullVolume();
        x.punch(0, 60, 4);
        x.punch(1, 0, 64);
        x.punch(2, 0, 1);
        rooms("in a row", x, 1, 4, 1, 64, 1, 1);
    }

    /** For each group how many free extents and blocks are due. */
    private static void rooms(String when, ExtentVolume x, int... due) {
        for (int what = 0; what < 2; what++) {
            int sum = 0;
            for (int group = 0; group < 3; group++) {
                Check.due(when + ": room(" + group + ", " + what + ")", x.room(group, what), due[2 * group + what]);
                sum += due[2 * group + what];
            }
            Check.due(when + ": room(3, " + what + ")", x.room(3, what), sum);
        }
    }

    private static void noSuchGroup() {
        Check.sentence("NONE for others: no group, nor 3");
        ExtentVolume x = new ExtentVolume();
        int[] wrong = {-1, -3, 4, 5, -2147483648, 2147483647, 67108864};
        for (int group : wrong) {
            Check.due("room(" + group + ", 0)", x.room(group, 0), NONE);
            Check.due("room(" + group + ", 1)", x.room(group, 1), NONE);
        }
    }

    private static void otherWhats() {
        Check.sentence("NONE for others: what is neither 0 nor 1");
        ExtentVolume x = new ExtentVolume();
        int[] wrong = {-1, 2, 3, -2147483648, 2147483647};
        for (int group = 0; group < 4; group++) {
            for (int what : wrong) {
                Check.due("room(" + group + ", " + what + ")", x.room(group, what), NONE);
            }
        }
    }
}
