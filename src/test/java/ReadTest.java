/** Promise 3: read. */
public final class ReadTest {
    public static void main(String[] args) {
        ExtentVolume x = new ExtentVolume();
        x.write(0, 0, 3, -1);
        x.write(7, 62, 2, 40);
        Check.ints("written", x, 0, 0, -1, 0, 1, 0);
        Check.ints("written", x, 7, 61, 0, 40, 41);
        x.share(7, 2, 61, 3);
        Check.ints("shared", x, 2, 61, 0, 40, 41);
        x.punch(7, 62, 1);
        Check.ints("punched", x, 7, 61, 0, 0, 41);
        Check.ints("still shared", x, 2, 61, 0, 40, 41);
        Check.due("read(-1, 0)", x.read(-1, 0), 0);
        Check.due("read(8, 0)", x.read(8, 0), 0);
        Check.due("read(0, -1)", x.read(0, -1), 0);
        // Piece 64 of file 0 is none: not piece 0 of file 1.
        x.write(1, 0, 1, 99);
        Check.due("read(0, 64)", x.read(0, 64), 0);
        Check.due("read(1, -1)", x.read(1, -1), 0);
        Check.due("read(min, min)", x.read(Integer.MIN_VALUE, Integer.MIN_VALUE), 0);
        Check.due("read(max, max)", x.read(Integer.MAX_VALUE, Integer.MAX_VALUE), 0);
        Check.end();
    }
}
