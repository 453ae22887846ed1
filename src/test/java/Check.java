/** Counts the answers that are not the ones that are due, and ends a test. */
final class Check {
    /** Numbers that name no file; the last one times 64 wraps to 0. */
    static final int[] NO_FILES = {-1, 8, 9, 64, -2147483648, 2147483647, 67108864};

    /** Pieces from the first number on, as many as the second one: one of them at least is none. */
    static final int[][] NO_PIECES = {
        {-1, 1}, {-1, 2}, {-64, 64}, {-64, 128}, {64, 1}, {63, 2}, {62, 3}, {1, 64}, {0, 65}, {0, 128},
        {0, 2147483647}, {1, 2147483647}, {63, 2147483647}, {2147483647, 1}, {2147483647, 2147483647},
        {-2147483648, 1}, {-2147483648, 2147483647}, {-1, 2147483647}, {2147483584, 64}};

    /** Counts of pieces, or of changes, that are below 1. */
    static final int[] BELOW_ONE = {0, -1, -2, -64, -2147483647, -2147483648};

    private static String sentence = "";
    private static int wrong = 0;

    private Check() {
    }

    /** The words of the document that the next calls test: told with each wrong answer. */
    static void sentence(String words) {
        sentence = "[" + words + "] ";
    }

    static void due(String call, int got, int want) {
        if (got != want) {
            wrong++;
            System.out.println(sentence + call + " answered " + got + ", due is " + want);
        }
    }

    static void due(String call, boolean got, boolean want) {
        if (got != want) {
            wrong++;
            System.out.println(sentence + call + " answered " + got + ", due is " + want);
        }
    }

    /** The blocks of the pieces of a file from one piece on. */
    static void places(String when, ExtentVolume x, int file, int from, int... blocks) {
        for (int i = 0; i < blocks.length; i++) {
            int piece = from + i;
            due(when + ": place(" + file + ", " + piece + ")", x.place(file, piece), blocks[i]);
        }
    }

    /** The ints of the pieces of a file from one piece on. */
    static void ints(String when, ExtentVolume x, int file, int from, int... ints) {
        for (int i = 0; i < ints.length; i++) {
            int piece = from + i;
            due(when + ": read(" + file + ", " + piece + ")", x.read(file, piece), ints[i]);
        }
    }

    /** All free extents of a group in their order, each as first block and length, and none behind them. */
    static void freeExtents(String when, ExtentVolume x, int group, int... firstsAndLengths) {
        int count = firstsAndLengths.length / 2;
        for (int k = 0; k < count; k++) {
            String call = when + ": free(" + group + ", " + k + ", ";
            due(call + "0)", x.free(group, k, 0), firstsAndLengths[2 * k]);
            due(call + "1)", x.free(group, k, 1), firstsAndLengths[2 * k + 1]);
        }
        due(when + ": free(" + group + ", " + count + ", 0)", x.free(group, count, 0), ExtentVolume.NONE);
        due(when + ": free(" + group + ", " + count + ", 1)", x.free(group, count, 1), ExtentVolume.NONE);
    }

    /** A volume without a free block: file g has all blocks of group g, piece i at the i-th of them. */
    static ExtentVolume fullVolume() {
        ExtentVolume x = new ExtentVolume();
        for (int file = 0; file < 3; file++) {
            due("write(" + file + ", 0, 64, ..)", x.write(file, 0, 64, 1000 * file), 64);
        }
        return x;
    }

    static void end() {
        if (wrong != 0) {
            System.exit(1);
        }
    }
}
