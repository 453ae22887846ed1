/** Promise 8: changes. */
public final class ChangesTest {
    public static void main(String[] args) {
        noneToFour();
        afterBack();
        asksAndRefusalsAreNone();
        Check.end();
    }

    private static void noneToFour() {
        Check.sentence("How many changes can be taken back: 0 to 4");
        ExtentVolume x = new ExtentVolume();
        Check.due("changes()", x.changes(), 0);
        x.write(0, 0, 1, 1);
        Check.due("changes() after write", x.changes(), 1);
        x.punch(1, 0, 1);
        Check.due("changes() after punch", x.changes(), 2);
        x.share(0, 1, 0, 1);
        Check.due("changes() after share", x.changes(), 3);
        x.pack(0);
        Check.due("changes() after pack", x.changes(), 4);
        x.write(0, 0, 1, 1);
        Check.due("changes() after a fifth one", x.changes(), 4);
        Check.due("changes() asked again", x.changes(), 4);
    }

    private static void afterBack() {
        Check.sentence("How many changes can be taken back: after back, which is none itself");
        ExtentVolume x = new ExtentVolume();
        for (int i = 0; i < 4; i++) {
            x.write(0, 0, 1, i);
        }
        x.back(3);
        Check.due("changes() after back(3)", x.changes(), 1);
        x.back(1);
        Check.due("changes() after back(1)", x.changes(), 0);
        x.write(0, 0, 1, 1);
        Check.due("changes() after a new one", x.changes(), 1);
    }

    private static void asksAndRefusalsAreNone() {
        Check.sentence("How many changes can be taken back: asks and refused calls are none");
        ExtentVolume x = new ExtentVolume();
        x.write(0, 0, 1, 1);
        x.read(0, 0);
        x.place(0, 0);
        x.uses(0);
        x.extents(0);
        x.free(0, 0, 0);
        x.room(0, 0);
        x.write(0, 0, 65, 0);
        x.punch(0, 0, 0);
        x.share(1, 1, 0, 1);
        x.pack(8);
        x.back(2);
        Check.due("changes()", x.changes(), 1);
    }
}
