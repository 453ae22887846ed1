import java.util.function.Consumer;

/** Promise 15: order and limits. */
public final class LimitsTest {
    private static final int NONE = ExtentVolume.NONE;
    private static final int FULL = ExtentVolume.FULL;

    public static void main(String[] args) {
        writeNoneBeforeFull();
        packNoneBeforeFull();
        refusedWrites();
        refusedPunches();
        refusedShares();
        refusedPacks();
        refusedBacks();
        refusedAsks();
        intsWrap();
        intsWrapInPlace();
        intsWrapOverRows();
        countsBelowOne();
        backBelowOne();
        theFifthLatestIsGone();
        theFifthLatestStaysGone();
        refusedOnesAreNoFifth();
        takenBackOnesAreNoFifth();
        Check.end();
    }

    private static void writeNoneBeforeFull() {
        Check.sentence("write: NONE is tested before FULL");
        ExtentVolume x = Check.fullVolume();
        Check.due("write(3, 0, 1, 1)", x.write(3, 0, 1, 1), FULL);
        Check.due("write(8, 0, 1, 1)", x.write(8, 0, 1, 1), NONE);
        Check.due("write(-1, 0, 1, 1)", x.write(-1, 0, 1, 1), NONE);
        Check.due("write(3, 60, 5, 1)", x.write(3, 60, 5, 1), NONE);
        Check.due("write(3, -1, 5, 1)", x.write(3, -1, 5, 1), NONE);
        Check.due("write(3, 0, 200, 1)", x.write(3, 0, 200, 1), NONE);
        Check.due("write(3, 0, 0, 1)", x.write(3, 0, 0, 1), NONE);
    }

    private static void packNoneBeforeFull() {
        Check.sentence("pack: NONE is tested before FULL");
        ExtentVolume x = Check.fullVolume();
        Check.due("pack(0)", x.pack(0), FULL);
        Check.due("pack(8)", x.pack(8), NONE);
        Check.due("pack(-1)", x.pack(-1), NONE);
    }

    private static void refusedWrites() {
        Check.sentence("a call that is refused changes nothing: write");
        refused("write(8, 0, 1, 7)", x -> x.write(8, 0, 1, 7));
        refused("write(0, 60, 5, 7)", x -> x.write(0, 60, 5, 7));
        refused("write(0, 0, 0, 7)", x -> x.write(0, 0, 0, 7));
        refused("write(0, 4, 3, 7)", x -> x.write(0, 4, 3, 7));
        refused("write(4, 0, 64, 7)", x -> x.write(4, 0, 64, 7));
    }

    private static void refusedPunches() {
        Check.sentence("a call that is refused changes nothing: punch");
        refused("punch(8, 0, 1)", x -> x.punch(8, 0, 1));
        refused("punch(0, 60, 5)", x -> x.punch(0, 60, 5));
        refused("punch(0, -1, 5)", x -> x.punch(0, -1, 5));
        refused("punch(0, 0, 0)", x -> x.punch(0, 0, 0));
    }

    private static void refusedShares() {
        Check.sentence("a call that is refused changes nothing: share");
        refused("share(8, 1, 0, 1)", x -> x.share(8, 1, 0, 1));
        refused("share(0, 8, 0, 1)", x -> x.share(0, 8, 0, 1));
        refused("share(0, 0, 0, 1)", x -> x.share(0, 0, 0, 1));
        refused("share(0, 4, 60, 5)", x -> x.share(0, 4, 60, 5));
        refused("share(0, 4, 0, -1)", x -> x.share(0, 4, 0, -1));
    }

    private static void refusedPacks() {
        Check.sentence("a call that is refused changes nothing: pack");
        refused("pack(8)", x -> x.pack(8));
        refused("pack(0)", x -> x.pack(0));
    }

    private static void refusedBacks() {
        Check.sentence("a call that is refused changes nothing: back");
        refused("back(5)", x -> x.back(5));
        refused("back(0)", x -> x.back(0));
        refused("back(-1)", x -> x.back(-1));
    }

    private static void refusedAsks() {
        Check.sentence("a call that is refused changes nothing: place, uses, extents, free, room");
        refused("place(8, 0)", x -> x.place(8, 0));
        refused("uses(192)", x -> x.uses(192));
        refused("extents(8)", x -> x.extents(8));
        refused("free(3, 0, 0)", x -> x.free(3, 0, 0));
        refused("room(4, 0)", x -> x.room(4, 0));
    }

    private static void refused(String call, Consumer<ExtentVolume> made) {
        Same.due(call, x -> {
            almostFull(x);
            made.accept(x);
        }, LimitsTest::almostFull);
    }

    /** Piece 4 of file 0 is alone, 5 a hole, 6 shares its block; one block is free; five changes were made. */
    private static void almostFull(ExtentVolume x) {
        for (int file = 0; file < 3; file++) {
            x.write(file, 0, 64, 1000 * file);
        }
        x.punch(0, 5, 1);
        x.share(0, 3, 6, 1);
    }

    private static void intsWrap() {
        Check.sentence("write: the one behind 2147483647 is -2147483648");
        ExtentVolume x = new ExtentVolume();
        x.write(0, 0, 4, 2147483646);
        Check.ints("wrap", x, 0, 0, 2147483646, 2147483647, -2147483648, -2147483647);
        x.write(1, 0, 64, 2147483647);
        Check.ints("wrap at once", x, 1, 0, 2147483647, -2147483648);
        Check.ints("wrap at once", x, 1, 63, -2147483586);
        x.write(2, 0, 1, 2147483647);
        Check.ints("none behind it", x, 2, 0, 2147483647, 0);
        x.pack(0);
        Check.ints("packed", x, 0, 0, 2147483646, 2147483647, -2147483648, -2147483647);
    }

    private static void intsWrapInPlace() {
        Check.sentence("write: the ints wrap: of pieces that are alone");
        ExtentVolume x = new ExtentVolume();
        x.write(0, 0, 4, 1);
        Check.due("write(0, 1, 2, 2147483647)", x.write(0, 1, 2, 2147483647), 0);
        Check.ints("wrap in place", x, 0, 0, 1, 2147483647, -2147483648, 4);
    }

    private static void intsWrapOverRows() {
        Check.sentence("write: the ints wrap: over pieces that are placed, and others");
        ExtentVolume x = new ExtentVolume();
        x.write(0, 1, 1, 1);
        Check.due("write(0, 0, 3, 2147483646)", x.write(0, 0, 3, 2147483646), 2);
        Check.ints("wrap over rows", x, 0, 0, 2147483646, 2147483647, -2147483648);
    }

    private static void countsBelowOne() {
        Check.sentence("write, punch and share: n below 1 answers NONE");
        ExtentVolume x = new ExtentVolume();
        x.write(0, 0, 4, 1);
        for (int n : Check.BELOW_ONE) {
            for (int from = 0; from < 64; from += 63) {
                Check.due("write(0, " + from + ", " + n + ", 5)", x.write(0, from, n, 5), NONE);
                Check.due("punch(0, " + from + ", " + n + ")", x.punch(0, from, n), NONE);
                Check.due("share(0, 1, " + from + ", " + n + ")", x.share(0, 1, from, n), NONE);
            }
        }
        Check.due("changes()", x.changes(), 1);
        Check.ints("nothing changes", x, 0, 0, 1, 2, 3, 4, 0);
        Check.due("extents(1)", x.extents(1), 0);
    }

    private static void backBelowOne() {
        Check.sentence("back: n below 1 answers false");
        for (int count = 0; count <= 5; count++) {
            ExtentVolume x = new ExtentVolume();
            for (int i = 0; i < count; i++) {
                x.write(0, 0, 1, 10 + i);
            }
            for (int n : Check.BELOW_ONE) {
                Check.due("back(" + n + ") of " + count, x.back(n), false);
            }
            Check.due("changes()", x.changes(), count < 4 ? count : 4);
            Check.ints("nothing changes", x, 0, 0, count == 0 ? 0 : 9 + count);
        }
    }

    private static void theFifthLatestIsGone() {
        Check.sentence("after five changes and back(4), changes() answers 0");
        ExtentVolume x = new ExtentVolume();
        for (int i = 0; i < 5; i++) {
            x.write(0, 0, 1, i);
        }
        Check.due("back(4)", x.back(4), true);
        Check.due("changes()", x.changes(), 0);
        Check.due("back(1)", x.back(1), false);
        Check.due("settle()", x.settle(), 0);
        Check.ints("the first change stays", x, 0, 0, 0);
        Check.places("the first change stays", x, 0, 0, 0);
    }

    private static void theFifthLatestStaysGone() {
        Check.sentence("A change that was once the fifth latest can't be taken back any more");
        ExtentVolume x = new ExtentVolume();
        for (int i = 0; i < 5; i++) {
            x.write(0, i, 1, i);
        }
        Check.due("back(2)", x.back(2), true);
        Check.due("changes() of five less two", x.changes(), 2);
        Check.due("back(3)", x.back(3), false);
        x.write(0, 3, 1, 30);
        Check.due("changes() after a new one", x.changes(), 3);
        x.write(0, 4, 1, 40);
        Check.due("changes() after two new ones", x.changes(), 4);
        x.write(0, 5, 1, 50);
        Check.due("changes() after three new ones", x.changes(), 4);
        // The second change was the fifth latest now; the first one was it before.
        Check.due("back(4)", x.back(4), true);
        Check.due("changes()", x.changes(), 0);
        Check.places("two changes stay", x, 0, 0, 0, 1, NONE, NONE, NONE, NONE);
    }

    private static void refusedOnesAreNoFifth() {
        Check.sentence("the fifth latest: refused calls are no changes");
        ExtentVolume x = new ExtentVolume();
        for (int i = 0; i < 4; i++) {
            x.write(0, i, 1, i);
            x.write(8, 0, 1, 0);
            x.punch(0, 64, 1);
            x.share(0, 0, 0, 1);
            x.pack(-1);
            x.back(5);
        }
        Check.due("changes()", x.changes(), 4);
        Check.due("back(4)", x.back(4), true);
        Check.due("room(3, 1)", x.room(3, 1), 192);
    }

    private static void takenBackOnesAreNoFifth() {
        Check.sentence("the fifth latest: not by changes that were taken back before");
        ExtentVolume x = new ExtentVolume();
        for (int i = 0; i < 9; i++) {
            x.write(0, 0, 1, i);
            x.write(0, 1, 1, i);
            Check.due("changes()", x.changes(), 2);
            Check.due("back(2)", x.back(2), true);
        }
        for (int i = 0; i < 4; i++) {
            x.write(0, i, 1, i);
        }
        Check.due("back(4)", x.back(4), true);
        Check.due("room(3, 1)", x.room(3, 1), 192);
    }
}
