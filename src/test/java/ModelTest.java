/** All promises: long runs of calls, each answer held against the model's. Every run is the same each time. */
public final class ModelTest {
    private static final int RUNS = 1500;
    private static final int CALLS = 512;
    private static final int[] ODD = {
        -2147483648, -2147483647, -65, -1, 2, 3, 4, 8, 64, 65, 192, 1073741824, 2147483646, 2147483647};

    private static long seed;
    private static int run;
    private static ExtentVolume x;
    private static Model model;
    private static int mostPieces;
    private static int full = 0;

    public static void main(String[] args) {
        int near = 0;
        int best = 0;
        int longest = 0;
        for (run = 1; run <= RUNS; run++) {
            seed = run * 7919L;
            x = new ExtentVolume();
            model = new Model();
            // Some runs make many small changes and some few large ones, which leave other free extents.
            mostPieces = new int[] {2, 5, 12, 30, 64}[run % 5];
            for (int call = 0; call < CALLS; call++) {
                if (pick(5) < 2) {
                    change();
                } else {
                    ask();
                }
            }
            near += model.near;
            best += model.best;
            longest += model.longest;
        }
        Check.due("runs place NEAR", near > 1000, true);
        Check.due("runs place BEST", best > 1000, true);
        Check.due("runs place LONGEST", longest > 1000, true);
        Check.due("runs answer FULL", full > 1000, true);
        Check.end();
    }

    private static int pick(int bound) {
        seed = seed * 6364136223846793005L + 1442695040888963407L;
        return (int) ((seed >>> 33) % bound);
    }

    /** Mostly a number below the bound, now and then one far from it. */
    private static int number(int bound) {
        return pick(60) == 0 ? ODD[pick(ODD.length)] : pick(bound);
    }

    private static void change() {
        int file = number(8);
        int from = number(64);
        int most = from >= 0 && from < 64 && mostPieces > 64 - from ? 64 - from : mostPieces;
        int n = number(most + 1);
        int kind = pick(20);
        if (kind < 8) {
            write(file, from, n);
        } else if (kind < 12) {
            answer("punch(" + file + ", " + from + ", " + n + ")", x.punch(file, from, n), model.punch(file, from, n));
        } else if (kind < 15) {
            int to = number(8);
            String call = "share(" + file + ", " + to + ", " + from + ", " + n + ")";
            answer(call, x.share(file, to, from, n), model.share(file, to, from, n));
        } else if (kind < 17) {
            answer("pack(" + file + ")", x.pack(file), model.pack(file));
        } else if (kind < 19) {
            int count = number(6);
            answer("back(" + count + ")", x.back(count) ? 1 : 0, model.back(count) ? 1 : 0);
        } else if (pick(4) == 0) {
            answer("settle()", x.settle(), model.settle());
        }
    }

    private static void write(int file, int from, int n) {
        int v = pick(4) == 0 ? 2147483647 - pick(3) : pick(100000) - 50000;
        String call = "write(" + file + ", " + from + ", " + n + ", " + v + ")";
        answer(call, x.write(file, from, n, v), model.write(file, from, n, v));
    }

    private static void ask() {
        int file = number(8);
        int piece = number(64);
        int group = number(3);
        int k = number(6);
        int what = number(2);
        int block = number(192);
        switch (pick(7)) {
            case 0:
                answer("read(" + file + ", " + piece + ")", x.read(file, piece), model.read(file, piece));
                break;
            case 1:
                answer("place(" + file + ", " + piece + ")", x.place(file, piece), model.place(file, piece));
                break;
            case 2:
                answer("uses(" + block + ")", x.uses(block), model.uses(block));
                break;
            case 3:
                answer("extents(" + file + ")", x.extents(file), model.extents(file));
                break;
            case 4:
                String call = "free(" + group + ", " + k + ", " + what + ")";
                answer(call, x.free(group, k, what), model.free(group, k, what));
                break;
            case 5:
                int any = number(4);
                answer("room(" + any + ", " + what + ")", x.room(any, what), model.room(any, what));
                break;
            default:
                answer("changes()", x.changes(), model.changes());
        }
    }

    private static void answer(String call, int got, int due) {
        full += due == ExtentVolume.FULL ? 1 : 0;
        Check.due("run " + run + ": " + call, got, due);
    }
}
