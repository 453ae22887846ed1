/** Promise 13: free. */
public final class FreeTest {
    private static final int NONE = ExtentVolume.NONE;

    public static void main(String[] args) {
        zeroIsTheFirst();
        shorterOnesFirst();
        equalOnesByTheirBlocks();
        lengthsFromOneToSixtyFour();
        extentsEndWithTheirGroup();
        mostExtents();
        noneInAFullGroup();
        noSuchExtent();
        noSuchGroup();
        otherWhats();
        Check.end();
    }

    private static void zeroIsTheFirst() {
        Check.sentence("the k-th (0 first); what 0: its first block; 1: its length");
        ExtentVolume x = new ExtentVolume();
        for (int group = 0; group < 3; group++) {
            Check.due("free(" + group + ", 0, 0)", x.free(group, 0, 0), 64 * group);
            Check.due("free(" + group + ", 0, 1)", x.free(group, 0, 1), 64);
            Check.due("free(" + group + ", 1, 0)", x.free(group, 1, 0), NONE);
            Check.due("free(" + group + ", 1, 1)", x.free(group, 1, 1), NONE);
        }
    }

    private static void shorterOnesFirst() {
        Check.sentence("the shorter ones first");
        ExtentVolume x = Check.fullVolume();
        x.punch(1, 0, 4);
        x.punch(1, 10, 1);
        x.punch(1, 20, 3);
        x.punch(1, 30, 2);
        Check.freeExtents("1 to 4", x, 1, 74, 1, 94, 2, 84, 3, 64, 4);
    }

    private static void equalOnesByTheirBlocks() {
        Check.sentence("of equal ones those with lower blocks");
        ExtentVolume x = Check.fullVolume();
        x.punch(1, 61, 3);
        x.punch(1, 30, 1);
        x.punch(1, 20, 2);
        x.punch(1, 10, 1);
        x.punch(1, 0, 3);
        Check.freeExtents("sorted", x, 1, 74, 1, 94, 1, 84, 2, 64, 3, 125, 3);
        x.punch(1, 11, 1);
        Check.freeExtents("one grew", x, 1, 94, 1, 74, 2, 84, 2, 64, 3, 125, 3);
        x.punch(1, 12, 8);
        Check.freeExtents("two met", x, 1, 94, 1, 64, 3, 125, 3, 74, 12);
    }

    private static void lengthsFromOneToSixtyFour() {
        Check.sentence("1: its length: 1 to 64");
        for (int length = 1; length <= 64; length++) {
            ExtentVolume x = Check.fullVolume();
            x.punch(2, 64 - length, length);
            Check.freeExtents("at the end", x, 2, 192 - length, length);
            x.back(1);
            x.punch(2, 0, length);
            Check.freeExtents("at the start", x, 2, 128, length);
        }
    }

    private static void extentsEndWithTheirGroup() {
        Check.sentence("free extent of a group");
        ExtentVolume x = Check.fullVolume();
        x.punch(0, 62, 2);
        x.punch(1, 0, 3);
        x.punch(1, 63, 1);
        x.punch(2, 0, 1);
        Check.freeExtents("group 0", x, 0, 62, 2);
        Check.freeExtents("group 1", x, 1, 127, 1, 64, 3);
        Check.freeExtents("group 2", x, 2, 128, 1);
    }

    private static void mostExtents() {
        Check.sentence("the k-th: 32 at most");
        for (int odd = 0; odd < 2; odd++) {
            ExtentVolume x = Check.fullVolume();
            int[] due = new int[64];
            for (int i = 0; i < 32; i++) {
                x.punch(2, 2 * i + odd, 1);
                due[2 * i] = 128 + 2 * i + odd;
                due[2 * i + 1] = 1;
            }
            Check.freeExtents("each second block", x, 2, due);
        }
    }

    private static void noneInAFullGroup() {
        Check.sentence("NONE if there is none: in a full group");
        ExtentVolume x = Check.fullVolume();
        for (int group = 0; group < 3; group++) {
            Check.freeExtents("full", x, group);
        }
        x.punch(1, 5, 1);
        Check.freeExtents("full", x, 0);
        Check.freeExtents("one block", x, 1, 69, 1);
        Check.freeExtents("full", x, 2);
    }

    private static void noSuchExtent() {
        Check.sentence("NONE if there is none: k too small or too large");
        ExtentVolume x = Check.fullVolume();
        x.punch(0, 10, 1);
        x.punch(0, 20, 1);
        int[] wrong = {-1, -2, 2, 3, 64, -2147483648, 2147483647};
        for (int k : wrong) {
            Check.due("free(0, " + k + ", 0)", x.free(0, k, 0), NONE);
            Check.due("free(0, " + k + ", 1)", x.free(0, k, 1), NONE);
        }
        Check.due("free(0, 1, 0)", x.free(0, 1, 0), 20);
    }

    private static void noSuchGroup() {
        Check.sentence("NONE if there is none: no group, and 3 is none");
        ExtentVolume x = new ExtentVolume();
        int[] wrong = {-1, -3, 3, 4, -2147483648, 2147483647, 67108864};
        for (int group : wrong) {
            Check.due("free(" + group + ", 0, 0)", x.free(group, 0, 0), NONE);
            Check.due("free(" + group + ", 0, 1)", x.free(group, 0, 1), NONE);
        }
    }

    private static void otherWhats() {
        Check.sentence("NONE .. for others: what is neither 0 nor 1");
        ExtentVolume x = new ExtentVolume();
        int[] wrong = {-1, 2, 3, -2147483648, 2147483647};
        for (int group = 0; group < 3; group++) {
            for (int what : wrong) {
                Check.due("free(" + group + ", 0, " + what + ")", x.free(group, 0, what), NONE);
            }
        }
    }
}
