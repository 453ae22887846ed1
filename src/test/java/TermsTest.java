/** The section "Terms", but for placing: blocks, groups, files, pieces, holes, uses, free extents, changes. */
public final class TermsTest {
    private static final int NONE = ExtentVolume.NONE;
    private static final int FULL = ExtentVolume.FULL;

    public static void main(String[] args) {
        blocks();
        groups();
        files();
        pieces();
        piecesOfOtherFiles();
        holesAtFirst();
        usesOfSeveralFiles();
        freeWithoutUses();
        freeExtentsOfOneGroup();
        noFreeBlockBeforeOrBehind();
        changesThatWereNotRefused();
        changesThatAlterNothing();
        fourChangesAtMost();
        Check.end();
    }

    private static void blocks() {
        Check.sentence("BLOCKS 0..191");
        ExtentVolume x = Check.fullVolume();
        Check.due("uses(-1)", x.uses(-1), NONE);
        Check.due("uses(0)", x.uses(0), 1);
        Check.due("uses(191)", x.uses(191), 1);
        Check.due("uses(192)", x.uses(192), NONE);
        Check.due("write(3, 0, 1, 0), a 193rd block", x.write(3, 0, 1, 0), FULL);
    }

    private static void groups() {
        Check.sentence("GROUPS 0..2 of 64 each (0..63, 64..127, 128..191)");
        for (int group = 0; group < 3; group++) {
            ExtentVolume x = new ExtentVolume();
            x.write(group, 0, 64, 0);
            for (int block = 0; block < 192; block++) {
                Check.due("file " + group + ": uses(" + block + ")", x.uses(block), block / 64 == group ? 1 : 0);
            }
            Check.due("room(" + group + ", 1)", x.room(group, 1), 0);
            Check.due("room(3, 1)", x.room(3, 1), 128);
        }
    }

    private static void files() {
        Check.sentence("FILES 0..7");
        for (int file = 0; file < 8; file++) {
            ExtentVolume x = new ExtentVolume();
            Check.due("write(" + file + ", 0, 2, 5)", x.write(file, 0, 2, 5), 2);
            Check.ints("written", x, file, 0, 5, 6);
            Check.due("extents(" + file + ")", x.extents(file), 1);
            Check.due("share to another one", x.share(file, (file + 1) % 8, 0, 2), 2);
            Check.due("pack(" + file + ")", x.pack(file), 1);
            Check.due("punch(" + file + ", 0, 2)", x.punch(file, 0, 2), 2);
        }
    }

    private static void pieces() {
        Check.sentence("PIECES 0..63");
        ExtentVolume x = new ExtentVolume();
        Check.due("write(0, 0, 1, 5)", x.write(0, 0, 1, 5), 1);
        Check.due("write(0, 63, 1, 6)", x.write(0, 63, 1, 6), 1);
        Check.due("write(0, 0, 64, 7)", x.write(0, 0, 64, 7), 62);
        Check.due("write(0, -1, 1, 8)", x.write(0, -1, 1, 8), NONE);
        Check.due("write(0, 64, 1, 8)", x.write(0, 64, 1, 8), NONE);
        Check.ints("the first one", x, 0, -1, 0, 7, 8);
        Check.ints("the last one", x, 0, 62, 69, 70, 0);
    }

    private static void piecesOfOtherFiles() {
        Check.sentence("PIECES 0..63: the one behind the last is not the first one of the next file");
        ExtentVolume x = new ExtentVolume();
        x.write(0, 63, 1, 5);
        x.write(1, 0, 1, 6);
        Check.due("place(0, 64)", x.place(0, 64), NONE);
        Check.due("place(1, -1)", x.place(1, -1), NONE);
        Check.due("read(0, 64)", x.read(0, 64), 0);
        Check.due("read(1, -1)", x.read(1, -1), 0);
        Check.due("punch(0, 63, 2)", x.punch(0, 63, 2), NONE);
        Check.due("punch(1, -1, 2)", x.punch(1, -1, 2), NONE);
    }

    private static void holesAtFirst() {
        Check.sentence("each a HOLE (at first)");
        for (int file = 0; file < 8; file++) {
            ExtentVolume x = new ExtentVolume();
            for (int piece = 0; piece < 64; piece++) {
                Check.due("place(" + file + ", " + piece + ")", x.place(file, piece), NONE);
            }
        }
    }

    private static void usesOfSeveralFiles() {
        Check.sentence("USES of a block are the pieces that are at it (of one or several files)");
        ExtentVolume x = new ExtentVolume();
        x.write(0, 5, 1, 9);
        Check.due("uses(0) of one file", x.uses(0), 1);
        for (int to = 1; to < 8; to++) {
            x.share(to - 1, to, 5, 1);
            Check.due("uses(0) of " + (to + 1) + " files", x.uses(0), to + 1);
        }
    }

    private static void freeWithoutUses() {
        Check.sentence("it is FREE without any");
        ExtentVolume x = new ExtentVolume();
        x.write(0, 5, 1, 9);
        for (int to = 1; to < 8; to++) {
            x.share(0, to, 5, 1);
        }
        for (int file = 0; file < 7; file++) {
            x.punch(file, 5, 1);
            Check.due("room(0, 1) while it has uses", x.room(0, 1), 63);
        }
        Check.due("uses(0) at the end", x.uses(0), 1);
        x.punch(7, 5, 1);
        Check.due("uses(0) without any", x.uses(0), 0);
        Check.due("room(0, 1) without any", x.room(0, 1), 64);
    }

    private static void freeExtentsOfOneGroup() {
        Check.sentence("A FREE EXTENT is a row of free blocks of one group");
        ExtentVolume x = Check.fullVolume();
        x.punch(0, 63, 1);
        x.punch(1, 0, 1);
        x.punch(1, 63, 1);
        x.punch(2, 0, 1);
        Check.freeExtents("group 0", x, 0, 63, 1);
        Check.freeExtents("group 1", x, 1, 64, 1, 127, 1);
        Check.freeExtents("group 2", x, 2, 128, 1);
        Check.due("room(3, 0)", x.room(3, 0), 4);
    }

    private static void noFreeBlockBeforeOrBehind() {
        Check.sentence("with no free block of the group right before or behind it");
        ExtentVolume x = Check.fullVolume();
        x.punch(0, 10, 1);
        x.punch(0, 12, 1);
        Check.freeExtents("a block between them", x, 0, 10, 1, 12, 1);
        x.punch(0, 11, 1);
        Check.freeExtents("they met", x, 0, 10, 3);
        x.punch(0, 9, 1);
        x.punch(0, 13, 1);
        Check.freeExtents("one more at each side", x, 0, 9, 5);
        x.punch(0, 0, 9);
        x.punch(0, 14, 50);
        Check.freeExtents("the whole group", x, 0, 0, 64);
    }

    private static void changesThatWereNotRefused() {
        Check.sentence("CHANGES are write, punch, share and pack that were not refused");
        ExtentVolume x = Check.fullVolume();
        x.settle();
        x.write(3, 0, 1, 0);
        x.write(8, 0, 1, 0);
        x.punch(0, 64, 1);
        x.share(0, 0, 0, 1);
        x.pack(0);
        x.pack(8);
        Check.due("changes() after refused ones", x.changes(), 0);
        x.write(0, 0, 1, 0);
        Check.due("changes() after write", x.changes(), 1);
        x.punch(0, 0, 1);
        Check.due("changes() after punch", x.changes(), 2);
        x.share(0, 3, 1, 1);
        Check.due("changes() after share", x.changes(), 3);
        x.pack(3);
        Check.due("changes() after pack", x.changes(), 4);
    }

    private static void changesThatAlterNothing() {
        Check.sentence("CHANGES are .. that were not refused: also if they altered nothing");
        ExtentVolume x = new ExtentVolume();
        x.write(0, 0, 1, 5);
        x.settle();
        Check.due("write of the same int", x.write(0, 0, 1, 5), 0);
        Check.due("changes()", x.changes(), 1);
        Check.due("punch of holes", x.punch(1, 0, 64), 0);
        Check.due("changes()", x.changes(), 2);
        Check.due("share of holes", x.share(2, 3, 0, 64), 0);
        Check.due("changes()", x.changes(), 3);
        Check.due("pack of a file of holes", x.pack(4), 0);
        Check.due("changes()", x.changes(), 4);
    }

    private static void fourChangesAtMost() {
        Check.sentence("the latest ones, at most 4, can be taken back");
        ExtentVolume x = new ExtentVolume();
        for (int i = 1; i <= 9; i++) {
            x.write(0, 0, 1, i);
            Check.due("changes() after " + i, x.changes(), i < 4 ? i : 4);
        }
        for (int i = 8; i >= 5; i--) {
            Check.due("back(1)", x.back(1), true);
            Check.ints("the latest one first", x, 0, 0, i);
        }
        Check.due("back(1) of a fifth one", x.back(1), false);
        Check.ints("it stays", x, 0, 0, 5);
    }
}
