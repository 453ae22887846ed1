/** Promise 7: back. */
public final class BackTest {
    private static final int NONE = ExtentVolume.NONE;

    public static void main(String[] args) {
        eachKindOfChange();
        oneToFour();
        asIfTheyHadNeverBeen();
        placingAsIfTheyHadNeverBeen();
        changesAfterBack();
        notSoMany();
        notSoManyChangesNothing();
        moreThanFour();
        intsOfFreeBlocksAreSeenNowhere();
        oldIntsComeBack();
        oldIntsOfAllBlocksComeBack();
        Check.end();
    }

    private static void eachKindOfChange() {
        Check.sentence("Takes the latest n changes back: each kind of change");
        ExtentVolume x = new ExtentVolume();
        x.write(0, 0, 4, 10);
        x.share(0, 1, 0, 2);
        x.punch(0, 1, 2);
        x.pack(0);
        Check.due("back(1) of pack", x.back(1), true);
        Check.places("pack", x, 0, 0, 0, NONE, NONE, 3);
        Check.due("back(1) of punch", x.back(1), true);
        Check.places("punch", x, 0, 0, 0, 1, 2, 3);
        Check.ints("punch", x, 0, 0, 10, 11, 12, 13);
        Check.due("uses(1)", x.uses(1), 2);
        Check.due("back(1) of share", x.back(1), true);
        Check.places("share", x, 1, 0, NONE, NONE);
        Check.due("uses(1)", x.uses(1), 1);
        Check.due("back(1) of write", x.back(1), true);
        Check.places("write", x, 0, 0, NONE, NONE, NONE, NONE);
        Check.freeExtents("write", x, 0, 0, 64);
        Check.due("back(1)", x.back(1), false);
    }

    private static void oneToFour() {
        Check.sentence("the latest n changes (1..4)");
        for (int n = 1; n <= 4; n++) {
            ExtentVolume x = new ExtentVolume();
            for (int i = 0; i < 6; i++) {
                x.write(0, i, 1, 10 * i);
            }
            Check.due("back(" + n + ")", x.back(n), true);
            Check.due("extents(0)", x.extents(0), 1);
            Check.due("room(0, 1)", x.room(0, 1), 58 + n);
            Check.places("the last one that stays", x, 0, 5 - n, 5 - n, NONE);
            Check.due("changes()", x.changes(), 4 - n);
        }
    }

    private static void asIfTheyHadNeverBeen() {
        Check.sentence("as if they had never been");
        for (int n = 1; n <= 4; n++) {
            int stay = 4 - n;
            int taken = n;
            Same.due("back(" + n + ")", x -> {
                mixedChanges(x, 4);
                x.back(taken);
            }, x -> mixedChanges(x, stay));
        }
    }

    /** At most four changes, of all kinds. */
    private static void mixedChanges(ExtentVolume x, int count) {
        if (count > 0) {
            x.write(0, 0, 40, 100);
        }
        if (count > 1) {
            x.share(0, 5, 10, 20);
        }
        if (count > 2) {
            x.punch(0, 5, 10);
        }
        if (count > 3) {
            x.pack(5);
        }
    }

    private static void placingAsIfTheyHadNeverBeen() {
        Check.sentence("as if they had never been: for what comes behind");
        Same.due("back(2), write, pack", x -> {
            mixedChanges(x, 2);
            x.punch(5, 0, 64);
            x.write(3, 0, 64, 7);
            x.back(2);
            x.write(5, 12, 30, 9);
            x.pack(0);
        }, x -> {
            mixedChanges(x, 2);
            x.write(5, 12, 30, 9);
            x.pack(0);
        });
    }

    private static void changesAfterBack() {
        Check.sentence("Takes the latest n changes back: also after back and new changes");
        ExtentVolume x = new ExtentVolume();
        for (int i = 0; i < 7; i++) {
            x.write(0, 0, 1, i);
        }
        Check.due("back(2)", x.back(2), true);
        Check.ints("back(2)", x, 0, 0, 4);
        x.write(0, 0, 1, 100);
        Check.due("changes()", x.changes(), 3);
        Check.due("back(1)", x.back(1), true);
        Check.ints("back(1)", x, 0, 0, 4);
        Check.due("back(2)", x.back(2), true);
        Check.ints("back(2) again", x, 0, 0, 2);
        Check.due("back(1)", x.back(1), false);
        Check.ints("nothing changes", x, 0, 0, 2);
    }

    private static void notSoMany() {
        Check.sentence("false .. if there are not so many");
        for (int count = 0; count <= 4; count++) {
            for (int n = 1; n <= 5; n++) {
                ExtentVolume x = new ExtentVolume();
                for (int i = 0; i < count; i++) {
                    x.write(0, i, 1, i);
                }
                boolean due = n <= count;
                Check.due("back(" + n + ") of " + count, x.back(n), due);
                Check.due("changes()", x.changes(), due ? count - n : count);
                Check.due("room(0, 1)", x.room(0, 1), due ? 64 - count + n : 64 - count);
            }
        }
    }

    private static void notSoManyChangesNothing() {
        Check.sentence("false, and nothing changes, if there are not so many");
        Same.due("back(4) of 3", x -> {
            mixedChanges(x, 3);
            Check.due("back(4)", x.back(4), false);
        }, x -> mixedChanges(x, 3));
    }

    private static void moreThanFour() {
        Check.sentence("(1..4): never more");
        int[] many = {5, 6, 8, 9, 64, 2147483646, 2147483647};
        ExtentVolume x = new ExtentVolume();
        for (int i = 0; i < 9; i++) {
            x.write(0, i, 1, i);
        }
        for (int n : many) {
            Check.due("back(" + n + ")", x.back(n), false);
        }
        Check.due("changes()", x.changes(), 4);
        Check.ints("nothing changes", x, 0, 0, 0, 1, 2, 3, 4, 5, 6, 7, 8);
    }

    private static void intsOfFreeBlocksAreSeenNowhere() {
        Check.sentence("(Ints of free blocks are seen nowhere.)");
        ExtentVolume x = new ExtentVolume();
        x.write(0, 0, 2, 10);
        x.back(1);
        Check.ints("holes", x, 0, 0, 0, 0);
        x.write(3, 5, 2, 20);
        Check.places("the same blocks", x, 3, 5, 0, 1);
        Check.ints("the new ints", x, 3, 5, 20, 21);
        x.share(3, 0, 5, 2);
        Check.ints("the new ints", x, 0, 5, 20, 21);
    }

    private static void oldIntsComeBack() {
        Check.sentence("as if they had never been: the ints of blocks that others took");
        ExtentVolume x = new ExtentVolume();
        x.write(0, 0, 2, 10);
        x.write(0, 0, 2, 20);
        x.punch(0, 0, 2);
        x.write(3, 0, 2, 30);
        Check.places("the same blocks", x, 3, 0, 0, 1);
        Check.due("back(2)", x.back(2), true);
        Check.ints("before punch", x, 0, 0, 20, 21);
        Check.places("no more", x, 3, 0, NONE, NONE);
        Check.due("back(1)", x.back(1), true);
        Check.ints("before the second write", x, 0, 0, 10, 11);
    }

    private static void oldIntsOfAllBlocksComeBack() {
        Check.sentence("as if they had never been: the ints of all blocks");
        Same.due("back(3)", x -> {
            writeAll(x, 1000);
            x.settle();
            writeAll(x, 5000);
            x.back(3);
        }, x -> {
            writeAll(x, 1000);
            x.settle();
        });
    }

    private static void writeAll(ExtentVolume x, int v) {
        for (int file = 0; file < 3; file++) {
            x.write(file, 0, 64, v + 100 * file);
        }
    }
}
