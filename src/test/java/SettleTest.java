/** Promise 9: settle. */
public final class SettleTest {
    public static void main(String[] args) {
        ExtentVolume x = new ExtentVolume();
        for (int i = 1; i <= 6; i++) {
            x.write(0, 0, i, 10 * i);
        }
        Check.due("settle()", x.settle(), 4);
        Check.due("changes()", x.changes(), 0);
        Check.due("back(1)", x.back(1), false);
        Check.due("settle() again", x.settle(), 0);
        Check.ints("settled", x, 0, 0, 60, 61, 62, 63, 64, 65, 0);
        x.punch(0, 0, 1);
        x.punch(0, 1, 1);
        Check.due("back(3)", x.back(3), false);
        Check.due("back(2)", x.back(2), true);
        Check.ints("only what came after settle", x, 0, 0, 60, 61, 62);
        x.punch(0, 0, 1);
        Check.due("settle() of one", x.settle(), 1);
        Check.end();
    }
}
