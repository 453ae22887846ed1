/** The section "Terms": how pieces are placed, seen through write and pack. */
public final class PlacingTest {
    private static final int NONE = ExtentVolume.NONE;

    public static void main(String[] args) {
        blocksOfTheirOwn();
        noPieceBeforeTheFirst();
        holeBefore();
        nearBeforeBest();
        nearBlockIsNotFree();
        nearBlockIsOfAnotherGroup();
        nearBlockOfAnotherGroupIsNotTakenForMore();
        nearAsManyAsAreFree();
        nearUpToTheEndOfTheGroup();
        nearNotMoreThanAreLeft();
        nearForEachRow();
        nearBehindASharedPiece();
        nearTheLastOneThatWasPlaced();
        bestGroupsInTheirOrder();
        bestInLaterGroups();
        bestAsManyAsAreLeft();
        bestIsTheFirstGroupWithRoom();
        bestIsTheShortest();
        bestOfSeveralTheLeastBlock();
        longestOfAllGroups();
        longestOfSeveralTheLeastBlock();
        longestThenBest();
        longestOfSingleBlocks();
        oldBlockIsLeft();
        freeAtOnceForBest();
        freeAtOnceForNear();
        notFreeBeforeItIsMoved();
        Check.end();
    }

    private static void blocksOfTheirOwn() {
        Check.sentence("each at a free block of its own");
        ExtentVolume x = Check.fullVolume();
        for (int i = 0; i < 64; i++) {
            x.punch(i % 3, i, 1);
        }
        Check.due("write(3, 0, 64, 0)", x.write(3, 0, 64, 0), 64);
        for (int block = 0; block < 192; block++) {
            Check.due("uses(" + block + ")", x.uses(block), 1);
        }
        Check.due("room(3, 1)", x.room(3, 1), 0);
    }

    private static void noPieceBeforeTheFirst() {
        Check.sentence("NEAR: if the piece before (a - 1 ..): none is before piece 0");
        ExtentVolume x = new ExtentVolume();
        x.write(2, 63, 1, 0);
        Check.places("before", x, 2, 63, 128);
        // 129 is near to piece 63 of file 2, which is not the piece before piece 0 of file 3.
        x.write(3, 0, 1, 0);
        Check.places("file 3", x, 3, 0, 0);
        x.write(0, 0, 1, 0);
        Check.places("file 0", x, 0, 0, 1);
    }

    private static void holeBefore() {
        Check.sentence("NEAR: if the piece before .. is at a block p: not if it is a hole");
        ExtentVolume x = Check.fullVolume();
        x.punch(0, 31, 2);
        x.punch(0, 5, 1);
        Check.due("write(0, 32, 1, 0)", x.write(0, 32, 1, 0), 1);
        Check.places("best", x, 0, 30, 30, NONE, 5);
        Check.due("write(0, 31, 1, 0)", x.write(0, 31, 1, 0), 1);
        Check.places("near", x, 0, 30, 30, 31, 5);
    }

    private static void nearBeforeBest() {
        Check.sentence("NEAR .. else BEST");
        ExtentVolume x = new ExtentVolume();
        x.write(0, 0, 10, 0);
        x.punch(0, 2, 1);
        x.punch(0, 5, 3);
        // Block 2 would be the best size for one piece, block 10 is near piece 9.
        Check.due("write(0, 10, 1, 9)", x.write(0, 10, 1, 9), 1);
        Check.places("near", x, 0, 10, 10);
        Check.due("write(0, 12, 1, 9)", x.write(0, 12, 1, 9), 1);
        Check.places("behind a hole", x, 0, 12, 2);
    }

    private static void nearBlockIsNotFree() {
        Check.sentence("NEAR: and p + 1 is free");
        ExtentVolume x = Check.fullVolume();
        x.punch(0, 5, 1);
        x.punch(0, 12, 1);
        x.share(0, 3, 10, 1);
        Check.due("write(3, 11, 1, 0)", x.write(3, 11, 1, 0), 1);
        Check.places("block 11 is used", x, 3, 10, 10, 5);
    }

    private static void nearBlockIsOfAnotherGroup() {
        Check.sentence("NEAR: and of the same group");
        for (int group = 0; group < 3; group++) {
            ExtentVolume x = new ExtentVolume();
            int first = group * 64;
            x.write(group, 0, 63, 0);
            x.write(group + 3, 0, 1, 0);
            x.punch(group, 5, 1);
            Check.places("the last block of the group", x, group + 3, 0, first + 63);
            Check.due("write behind it", x.write(group + 3, 1, 1, 0), 1);
            Check.places("not the first block of the next group", x, group + 3, 1, first + 5);
        }
    }

    private static void nearBlockOfAnotherGroupIsNotTakenForMore() {
        Check.sentence("NEAR: and of the same group: else all that are left go to the best place");
        ExtentVolume x = new ExtentVolume();
        x.write(3, 0, 62, 0);
        x.write(6, 0, 1, 0);
        x.write(6, 1, 2, 0);
        Check.places("over the end", x, 6, 0, 62, 63, 64);
        x.write(1, 0, 1, 0);
        x.punch(6, 2, 1);
        x.write(6, 2, 2, 0);
        Check.places("block 64 alone is too few", x, 6, 2, 66, 67);
    }

    private static void nearAsManyAsAreFree() {
        Check.sentence("NEAR: m as many as there are free blocks there in a row");
        ExtentVolume x = Check.fullVolume();
        x.punch(0, 10, 3);
        x.punch(0, 20, 2);
        x.punch(0, 30, 5);
        x.share(0, 3, 9, 1);
        // All five would fit at 30, but three go to 10..12 first; then 20..21 is the best for two.
        Check.due("write(3, 10, 5, 7)", x.write(3, 10, 5, 7), 5);
        Check.places("three near, two best", x, 3, 9, 9, 10, 11, 12, 20, 21);
        Check.ints("three near, two best", x, 3, 10, 7, 8, 9, 10, 11);
    }

    private static void nearUpToTheEndOfTheGroup() {
        Check.sentence("NEAR: as there are free blocks there in a row in the group");
        ExtentVolume x = new ExtentVolume();
        x.write(1, 0, 3, 0);
        x.write(3, 0, 61, 0);
        x.write(0, 0, 1, 0);
        Check.places("before", x, 0, 0, 61);
        Check.due("write(0, 1, 4, 0)", x.write(0, 1, 4, 0), 4);
        Check.places("to the end, then best", x, 0, 0, 61, 62, 63, 67, 68);
        ExtentVolume y = new ExtentVolume();
        y.write(0, 0, 61, 0);
        Check.due("write(0, 61, 3, 0)", y.write(0, 61, 3, 0), 3);
        Check.places("the whole rest", y, 0, 60, 60, 61, 62, 63);
    }

    private static void nearNotMoreThanAreLeft() {
        Check.sentence("NEAR: but not more than are left");
        ExtentVolume x = Check.fullVolume();
        x.punch(0, 10, 4);
        Check.due("write(0, 10, 2, 0)", x.write(0, 10, 2, 0), 2);
        Check.places("two of four", x, 0, 9, 9, 10, 11, NONE, NONE, 14);
        Check.freeExtents("two of four", x, 0, 12, 2);
        Check.due("write(0, 12, 2, 0)", x.write(0, 12, 2, 0), 2);
        Check.places("two of two", x, 0, 11, 11, 12, 13, 14);
    }

    private static void nearForEachRow() {
        Check.sentence("NEAR: a - 1, for each row that is placed");
        ExtentVolume x = Check.fullVolume();
        x.punch(0, 5, 1);
        x.punch(0, 11, 1);
        x.punch(0, 21, 2);
        Check.due("write(0, 11, 13, 0)", x.write(0, 11, 13, 0), 3);
        Check.places("the first row", x, 0, 10, 10, 11, 12);
        Check.places("the second row", x, 0, 20, 20, 21, 22, 23);
        Check.freeExtents("not the first free one", x, 0, 5, 1);
    }

    private static void nearBehindASharedPiece() {
        Check.sentence("NEAR: the piece before is at a block p, shared or not");
        ExtentVolume x = new ExtentVolume();
        x.write(0, 0, 4, 0);
        x.share(0, 1, 0, 4);
        Check.due("write(1, 4, 2, 0)", x.write(1, 4, 2, 0), 2);
        Check.places("near a shared block", x, 1, 3, 3, 4, 5);
        ExtentVolume y = new ExtentVolume();
        y.write(0, 0, 4, 0);
        y.share(0, 1, 0, 2);
        // Piece 1 is shared, so pieces 1 to 3 are one row behind piece 0, and block 1 is not free.
        Check.due("write(1, 1, 3, 0)", y.write(1, 1, 3, 0), 3);
        Check.places("a row of a shared piece and holes", y, 1, 0, 0, 64, 65, 66);
    }

    private static void nearTheLastOneThatWasPlaced() {
        Check.sentence("NEAR: or the last one that was placed: where it is now, not where it was");
        ExtentVolume x = Check.fullVolume();
        x.punch(0, 20, 2);
        x.write(3, 0, 2, 50);
        x.punch(0, 30, 1);
        x.write(3, 2, 1, 52);
        Check.places("before", x, 3, 0, 20, 21, 30);
        x.punch(0, 22, 1);
        x.punch(0, 40, 2);
        // Block 22 is near to 21, where piece 1 was; piece 1 is at 41 when piece 2 is placed.
        Check.due("pack(3)", x.pack(3), 2);
        Check.places("packed", x, 3, 0, 40, 41, 20);
        Check.ints("packed", x, 3, 0, 50, 51, 52);
    }

    private static void bestGroupsInTheirOrder() {
        Check.sentence("BEST: the groups file modulo 3, the next one, the one behind that (0 behind 2)");
        for (int file = 0; file < 8; file++) {
            for (int full = 0; full < 3; full++) {
                ExtentVolume x = new ExtentVolume();
                for (int i = 0; i < full; i++) {
                    int group = (file + i) % 3;
                    x.write(group == file ? group + 3 : group, 0, 64, 0);
                }
                int due = (file + full) % 3 * 64;
                x.write(file, 10, 2, 0);
                Check.places(full + " groups are full", x, file, 9, NONE, due, due + 1, NONE);
            }
        }
    }

    private static void bestInLaterGroups() {
        Check.sentence("BEST: .. the next one, the one behind that: before LONGEST");
        for (int file = 3; file < 6; file++) {
            for (int later = 1; later < 3; later++) {
                ExtentVolume x = Check.fullVolume();
                int group = (file + later) % 3;
                x.punch(group, 5, 5);
                x.punch(group, 20, 2);
                x.write(file, 0, 2, 0);
                Check.places("two of five and two", x, file, 0, group * 64 + 20, group * 64 + 21);
            }
        }
    }

    private static void bestAsManyAsAreLeft() {
        Check.sentence("BEST: a free extent with as many blocks as are left, or more");
        int[][] due = {{10}, {10, 11}, {84, 85, 86}, {158, 159, 160, 161}, {158, 159, 160, 161, 10}};
        for (int n = 1; n <= 5; n++) {
            ExtentVolume x = Check.fullVolume();
            x.punch(0, 10, 2);
            x.punch(1, 20, 3);
            x.punch(2, 30, 4);
            Check.due("write(3, 0, " + n + ", 0)", x.write(3, 0, n, 0), n);
            Check.places("2, 3 and 4 are free", x, 3, 0, due[n - 1]);
        }
    }

    private static void bestIsTheFirstGroupWithRoom() {
        Check.sentence("BEST: of the groups .. the first that has");
        ExtentVolume x = Check.fullVolume();
        x.punch(0, 0, 3);
        x.punch(1, 5, 9);
        x.punch(2, 7, 3);
        Check.due("write(4, 0, 3, 0)", x.write(4, 0, 3, 0), 3);
        Check.places("own group, though not the shortest", x, 4, 0, 69, 70, 71);
        Check.due("write(5, 0, 4, 0)", x.write(5, 0, 4, 0), 4);
        Check.places("0 is behind 2, then 1", x, 5, 0, 72, 73, 74, 75);
        Check.due("write(5, 10, 3, 0)", x.write(5, 10, 3, 0), 3);
        Check.places("group 2 for file 5", x, 5, 10, 135, 136, 137);
        Check.due("write(5, 20, 3, 0)", x.write(5, 20, 3, 0), 3);
        Check.places("group 0 behind group 2", x, 5, 20, 0, 1, 2);
    }

    private static void bestIsTheShortest() {
        Check.sentence("BEST: of these the shortest one; s is its first one");
        ExtentVolume x = Check.fullVolume();
        x.punch(0, 1, 5);
        x.punch(0, 10, 2);
        x.punch(0, 20, 4);
        x.punch(0, 40, 1);
        Check.due("write(3, 0, 3, 0)", x.write(3, 0, 3, 0), 3);
        Check.places("four for three", x, 3, 0, 20, 21, 22, NONE);
        Check.due("write(3, 10, 2, 0)", x.write(3, 10, 2, 0), 2);
        Check.places("two for two", x, 3, 10, 10, 11, NONE);
        Check.due("write(3, 20, 2, 0)", x.write(3, 20, 2, 0), 2);
        Check.places("five for two", x, 3, 20, 1, 2, NONE);
    }

    private static void bestOfSeveralTheLeastBlock() {
        Check.sentence("BEST: of several that with the least block");
        ExtentVolume x = Check.fullVolume();
        x.punch(1, 50, 3);
        x.punch(1, 61, 3);
        x.punch(1, 0, 3);
        x.punch(1, 20, 4);
        Check.due("write(4, 0, 2, 0)", x.write(4, 0, 2, 0), 2);
        Check.places("three of three", x, 4, 0, 64, 65);
        Check.due("write(4, 10, 3, 0)", x.write(4, 10, 3, 0), 3);
        Check.places("two of three", x, 4, 10, 114, 115, 116);
        Check.due("write(4, 20, 3, 0)", x.write(4, 20, 3, 0), 3);
        Check.places("the last of the group", x, 4, 20, 125, 126, 127);
    }

    private static void longestOfAllGroups() {
        Check.sentence("LONGEST: s is the first block of the longest free extent of all, and m its length");
        ExtentVolume x = Check.fullVolume();
        x.punch(0, 10, 3);
        x.punch(1, 10, 2);
        x.punch(2, 10, 4);
        Check.due("write(4, 0, 9, 0)", x.write(4, 0, 9, 0), 9);
        Check.places("group 2, group 0, group 1", x, 4, 0, 138, 139, 140, 141, 10, 11, 12, 74, 75);
    }

    private static void longestOfSeveralTheLeastBlock() {
        Check.sentence("LONGEST: of several that with the least block");
        ExtentVolume x = Check.fullVolume();
        x.punch(2, 10, 2);
        x.punch(1, 10, 2);
        x.punch(0, 10, 2);
        x.punch(0, 20, 1);
        // Group 2 is the first one for file 5, but that counts for BEST alone.
        Check.due("write(5, 0, 7, 0)", x.write(5, 0, 7, 0), 7);
        Check.places("group by group", x, 5, 0, 10, 11, 74, 75, 138, 139, 20);
    }

    private static void longestThenBest() {
        Check.sentence("as long as there are some left: for each m of them anew");
        ExtentVolume x = Check.fullVolume();
        x.punch(0, 10, 2);
        x.punch(0, 20, 3);
        x.punch(0, 30, 3);
        x.punch(0, 40, 1);
        Check.due("write(3, 0, 8, 50)", x.write(3, 0, 8, 50), 8);
        Check.places("3 longest, 3 longest, 2 best", x, 3, 0, 20, 21, 22, 30, 31, 32, 10, 11);
        Check.ints("3 longest, 3 longest, 2 best", x, 3, 0, 50, 51, 52, 53, 54, 55, 56, 57);
        Check.due("room(3, 1)", x.room(3, 1), 1);
    }

    private static void longestOfSingleBlocks() {
        Check.sentence("as long as there are some left: one by one, if there are single blocks alone");
        ExtentVolume x = Check.fullVolume();
        for (int i = 0; i < 32; i++) {
            x.punch(i < 16 ? 2 : 1, 2 * i + 1, 1);
        }
        Check.due("write(3, 32, 32, 0)", x.write(3, 32, 32, 0), 32);
        for (int i = 0; i < 16; i++) {
            Check.places("group 1 first", x, 3, 32 + i, 64 + 32 + 2 * i + 1);
            Check.places("group 2 behind it", x, 3, 48 + i, 128 + 2 * i + 1);
        }
        Check.due("extents(3)", x.extents(3), 32);
    }

    private static void oldBlockIsLeft() {
        Check.sentence("A piece that was at another block is there no more");
        ExtentVolume x = new ExtentVolume();
        x.write(0, 0, 1, 10);
        x.share(0, 1, 0, 1);
        x.share(0, 2, 0, 1);
        x.write(1, 0, 1, 20);
        Check.due("uses(0) after a write", x.uses(0), 2);
        Check.due("uses(64)", x.uses(64), 1);
        x.pack(2);
        Check.due("uses(0) after pack", x.uses(0), 1);
        x.pack(0);
        Check.due("uses(0) after pack of the last one", x.uses(0), 0);
        Check.places("packed", x, 0, 0, 1);
    }

    private static void freeAtOnceForBest() {
        Check.sentence("a block with no uses any more is free at once (while placing goes on, too): BEST");
        ExtentVolume x = Check.fullVolume();
        x.punch(0, 0, 32);
        x.punch(1, 0, 64);
        x.punch(2, 0, 32);
        x.write(4, 0, 64, 500);
        Check.places("before", x, 4, 0, 64, 65);
        // No extent has 64 blocks: 0..31 is the longest, and what it took left 64..95 in the file's own group.
        Check.due("pack(4)", x.pack(4), 2);
        Check.places("packed", x, 4, 30, 30, 31, 64, 65);
        Check.places("packed", x, 4, 63, 95);
        Check.ints("packed", x, 4, 30, 530, 531, 532, 533);
        Check.freeExtents("packed", x, 1, 96, 32);
        Check.freeExtents("packed", x, 2, 128, 32);
    }

    private static void freeAtOnceForNear() {
        Check.sentence("a block with no uses any more is free at once (while placing goes on, too): NEAR");
        ExtentVolume x = Check.fullVolume();
        x.punch(0, 12, 1);
        x.write(3, 0, 1, 50);
        x.punch(0, 30, 3);
        x.write(3, 1, 3, 51);
        Check.places("before", x, 3, 0, 12, 30, 31, 32);
        x.punch(0, 5, 1);
        x.punch(0, 10, 2);
        x.punch(0, 42, 1);
        // Pieces 0 and 1 go to the longest extent, 10..11. Piece 0 left block 12, so that is near for piece 2.
        Check.due("pack(3)", x.pack(3), 2);
        Check.places("packed", x, 3, 0, 10, 11, 12, 5);
        Check.ints("packed", x, 3, 0, 50, 51, 52, 53);
        Check.freeExtents("packed", x, 0, 42, 1, 30, 3);
    }

    private static void notFreeBeforeItIsMoved() {
        Check.sentence("each piece is moved by itself, in order: a later one is still at its block");
        ExtentVolume x = Check.fullVolume();
        x.punch(0, 12, 1);
        x.write(3, 2, 1, 52);
        x.punch(0, 30, 2);
        x.write(3, 0, 2, 50);
        x.punch(0, 40, 1);
        x.write(3, 3, 1, 53);
        Check.places("before", x, 3, 0, 30, 31, 12, 40);
        x.punch(0, 10, 2);
        x.punch(0, 50, 1);
        x.punch(0, 55, 1);
        // Pieces 0 and 1 go to 10..11; block 12 has piece 2 itself, so it is not near for that piece.
        Check.due("pack(3)", x.pack(3), 2);
        Check.places("packed", x, 3, 0, 10, 11, 30, 31);
        Check.ints("packed", x, 3, 0, 50, 51, 52, 53);
        Check.freeExtents("packed", x, 0, 12, 1, 40, 1, 50, 1, 55, 1);
    }
}
