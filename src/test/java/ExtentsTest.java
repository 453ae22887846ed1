/** Promise 12: extents. */
public final class ExtentsTest {
    private static final int NONE = ExtentVolume.NONE;

    public static void main(String[] args) {
        noneOfHoles();
        rowsOfPieces();
        firstAndLastPieces();
        blocksThatFall();
        blocksThatRiseByMore();
        blocksAroundAHole();
        groupsPart();
        eachFileByItself();
        mostExtents();
        noFile();
        Check.end();
    }

    private static void noneOfHoles() {
        Check.sentence("How many EXTENTS a file has: 0 of a file of holes");
        ExtentVolume x = new ExtentVolume();
        for (int file = 0; file < 8; file++) {
            Check.due("extents(" + file + ")", x.extents(file), 0);
        }
        x.write(0, 0, 64, 1);
        x.punch(0, 0, 64);
        Check.due("extents(0) punched", x.extents(0), 0);
    }

    private static void rowsOfPieces() {
        Check.sentence("rows of pieces at blocks that rise by one");
        ExtentVolume x = new ExtentVolume();
        x.write(0, 30, 1, 1);
        Check.due("extents(0) of one piece", x.extents(0), 1);
        x.write(0, 31, 5, 1);
        Check.due("extents(0) of six pieces", x.extents(0), 1);
        x.punch(0, 33, 1);
        Check.due("extents(0) around a hole", x.extents(0), 2);
        x.share(0, 1, 32, 3);
        Check.due("extents(1) of shared pieces", x.extents(1), 2);
    }

    private static void firstAndLastPieces() {
        Check.sentence("rows of pieces: at the first and the last piece");
        ExtentVolume x = new ExtentVolume();
        x.write(0, 0, 64, 1);
        Check.due("extents(0) of all pieces", x.extents(0), 1);
        x.punch(0, 1, 62);
        Check.due("extents(0) of pieces 0 and 63", x.extents(0), 2);
        x.punch(0, 0, 1);
        Check.due("extents(0) of piece 63", x.extents(0), 1);
    }

    private static void blocksThatFall() {
        Check.sentence("that rise by one: not those that fall");
        ExtentVolume x = new ExtentVolume();
        x.write(0, 3, 1, 1);
        x.write(0, 2, 1, 1);
        x.write(0, 1, 1, 1);
        Check.places("falling", x, 0, 1, 2, 1, 0);
        Check.due("extents(0)", x.extents(0), 3);
    }

    private static void blocksThatRiseByMore() {
        Check.sentence("that rise by one: not by two");
        ExtentVolume x = new ExtentVolume();
        x.write(0, 0, 1, 1);
        x.write(3, 0, 1, 1);
        x.write(0, 1, 2, 1);
        Check.places("rising", x, 0, 0, 0, 2, 3);
        Check.due("extents(0)", x.extents(0), 2);
    }

    private static void blocksAroundAHole() {
        Check.sentence("rows of pieces: a hole ends a row, though the blocks rise by one");
        ExtentVolume x = new ExtentVolume();
        x.write(0, 0, 1, 1);
        x.write(0, 2, 1, 1);
        Check.places("a hole between them", x, 0, 0, 0, NONE, 1);
        Check.due("extents(0)", x.extents(0), 2);
        x.write(3, 1, 1, 1);
        Check.places("block 0 behind a hole", x, 3, 0, NONE, 2);
        Check.due("extents(3)", x.extents(3), 1);
    }

    private static void groupsPart() {
        Check.sentence("within a group");
        for (int group = 0; group < 2; group++) {
            ExtentVolume x = new ExtentVolume();
            int last = group * 64 + 63;
            x.write(group, 0, 63, 1);
            x.write(group + 3, 5, 1, 1);
            x.write(group + 3, 6, 2, 1);
            Check.places("over the end of a group", x, group + 3, 5, last, last + 1, last + 2);
            Check.due("extents(" + (group + 3) + ")", x.extents(group + 3), 2);
        }
    }

    private static void eachFileByItself() {
        Check.sentence("How many EXTENTS a file has: piece 63 of the file before is no piece of it");
        ExtentVolume x = new ExtentVolume();
        x.write(0, 63, 1, 1);
        x.write(3, 0, 1, 1);
        x.share(3, 1, 0, 1);
        Check.places("one block behind the other", x, 0, 63, 0);
        Check.places("one block behind the other", x, 1, 0, 1);
        Check.due("extents(0)", x.extents(0), 1);
        Check.due("extents(1)", x.extents(1), 1);
    }

    private static void mostExtents() {
        Check.sentence("How many EXTENTS a file has: 64 at most");
        ExtentVolume x = new ExtentVolume();
        for (int piece = 63; piece >= 0; piece--) {
            x.write(2, piece, 1, 1);
        }
        Check.due("extents(2)", x.extents(2), 64);
    }

    private static void noFile() {
        Check.sentence("NONE if there is none");
        ExtentVolume x = Check.fullVolume();
        for (int file : Check.NO_FILES) {
            Check.due("extents(" + file + ")", x.extents(file), NONE);
        }
    }
}
