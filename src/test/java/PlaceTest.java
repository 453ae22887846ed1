/** Promise 10: place. */
public final class PlaceTest {
    private static final int NONE = ExtentVolume.NONE;

    public static void main(String[] args) {
        ExtentVolume x = Check.fullVolume();
        Check.places("full", x, 0, 0, 0, 1);
        Check.places("full", x, 1, 63, 127);
        Check.places("full", x, 2, 63, 191);
        Check.places("hole", x, 3, 0, NONE);
        x.share(2, 7, 63, 1);
        Check.places("shared", x, 7, 62, NONE, 191);
        x.punch(2, 63, 1);
        Check.places("punched", x, 2, 62, 190, NONE);
        Check.due("place(-1, 0)", x.place(-1, 0), NONE);
        Check.due("place(8, 0)", x.place(8, 0), NONE);
        Check.due("place(1, -1)", x.place(1, -1), NONE);
        Check.due("place(0, 64)", x.place(0, 64), NONE);
        Check.due("place(min, 0)", x.place(Integer.MIN_VALUE, 0), NONE);
        Check.due("place(0, max)", x.place(0, Integer.MAX_VALUE), NONE);
        Check.end();
    }
}
