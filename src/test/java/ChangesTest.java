/** Promise 8: changes. */
public final class ChangesTest {
    public static void main(String[] args) {
        ExtentVolume x = new ExtentVolume();
        Check.due("changes()", x.changes(), 0);
        x.write(0, 0, 1, 1);
        Check.due("changes() after write", x.changes(), 1);
        x.punch(1, 0, 1);
        Check.due("changes() after punch", x.changes(), 2);
        x.share(0, 1, 0, 1);
        Check.due("changes() after share", x.changes(), 3);
        x.pack(0);
        Check.due("changes() after pack", x.changes(), 4);
        x.write(0, 0, 1, 1);
        Check.due("changes() are 4 at most", x.changes(), 4);
        x.back(3);
        Check.due("changes() after back(3)", x.changes(), 1);
        asksAndRefusalsAreNone(x);
        Check.end();
    }

    private static void asksAndRefusalsAreNone(ExtentVolume x) {
        x.read(0, 0);
        x.place(0, 0);
        x.uses(0);
        x.extents(0);
        x.free(0, 0, 0);
        x.room(0, 0);
        x.write(0, 0, 65, 0);
        x.punch(0, 0, 0);
        x.share(1, 1, 0, 1);
        x.pack(8);
        x.back(2);
        Check.due("changes() after asks and refusals", x.changes(), 1);
    }
}
