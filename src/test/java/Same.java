import java.util.function.Consumer;

/**
 * Holds the state after one run of calls against the state after another. An object answers 512 calls, and a state has
 * more to ask for: each part of it is asked of two new objects, on which the runs are made again.
 */
final class Same {
    private Same() {
    }

    /** The states themselves, and those that 1 to 4 changes less lead to. */
    static void due(String when, Consumer<ExtentVolume> got, Consumer<ExtentVolume> want) {
        for (int less = 0; less <= 4; less++) {
            String part = when + (less == 0 ? "" : ", back(" + less + ")");
            for (int file = 0; file < 8; file++) {
                pieces(part, file, after(got, less), after(want, less));
            }
            for (int group = 0; group < 3; group++) {
                blocks(part, group, after(got, less), after(want, less));
            }
        }
    }

    private static ExtentVolume after(Consumer<ExtentVolume> calls, int less) {
        ExtentVolume x = new ExtentVolume();
        calls.accept(x);
        if (less > 0) {
            x.back(less);
        }
        return x;
    }

    private static void pieces(String when, int file, ExtentVolume x, ExtentVolume y) {
        Check.due(when + ": changes()", x.changes(), y.changes());
        Check.due(when + ": extents(" + file + ")", x.extents(file), y.extents(file));
        for (int piece = 0; piece < 64; piece++) {
            String of = "(" + file + ", " + piece + ")";
            Check.due(when + ": place" + of, x.place(file, piece), y.place(file, piece));
            Check.due(when + ": read" + of, x.read(file, piece), y.read(file, piece));
        }
    }

    private static void blocks(String when, int group, ExtentVolume x, ExtentVolume y) {
        int count = y.room(group, 0);
        Check.due(when + ": room(" + group + ", 0)", x.room(group, 0), count);
        Check.due(when + ": room(" + group + ", 1)", x.room(group, 1), y.room(group, 1));
        for (int block = group * 64; block < group * 64 + 64; block++) {
            Check.due(when + ": uses(" + block + ")", x.uses(block), y.uses(block));
        }
        for (int k = 0; k < count; k++) {
            for (int what = 0; what < 2; what++) {
                String call = when + ": free(" + group + ", " + k + ", " + what + ")";
                Check.due(call, x.free(group, k, what), y.free(group, k, what));
            }
        }
    }
}
