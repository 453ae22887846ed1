/** The first section: an object is used for at most 512 calls; each of these is answered as the document asks. */
public final class CallsTest {
    private static final int CALLS = 512;

    public static void main(String[] args) {
        changesUpToTheLastCall();
        asksThenOneChange();
        refusalsUpToTheLastCall();
        Check.end();
    }

    private static void changesUpToTheLastCall() {
        Check.sentence("at most 512 calls: 508 changes and four more calls");
        ExtentVolume x = new ExtentVolume();
        for (int i = 0; i < CALLS - 4; i++) {
            Check.due("write " + i, x.write(0, 0, 1, i), i == 0 ? 1 : 0);
        }
        Check.due("changes()", x.changes(), 4);
        Check.due("back(4)", x.back(4), true);
        Check.due("read(0, 0)", x.read(0, 0), CALLS - 4 - 5);
        Check.due("back(1) is the 512th call", x.back(1), false);
    }

    private static void asksThenOneChange() {
        Check.sentence("at most 512 calls: 510 asks, a change and its answer");
        ExtentVolume x = new ExtentVolume();
        for (int i = 0; i < CALLS - 2; i++) {
            Check.due("place " + i, x.place(i % 8, i % 64), ExtentVolume.NONE);
        }
        Check.due("write(7, 0, 64, 5)", x.write(7, 0, 64, 5), 64);
        Check.due("read(7, 63) is the 512th call", x.read(7, 63), 68);
    }

    private static void refusalsUpToTheLastCall() {
        Check.sentence("at most 512 calls: a write for each piece of all files, and 192 blocks");
        ExtentVolume x = new ExtentVolume();
        for (int i = 0; i < CALLS; i++) {
            int due = i < 192 ? 1 : ExtentVolume.FULL;
            Check.due("write " + i, x.write(i % 8, i / 8, 1, i), due);
        }
    }
}
