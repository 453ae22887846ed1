import java.io.IOException;
import java.nio.file.Files;
import java.nio.file.Path;
import java.util.ArrayList;
import java.util.List;

/** The example of README.md: its calls, in their order, answer what it says behind them. */
public final class ReadmeTest {
    private static final List<String> lines = new ArrayList<>();
    private static int next = 0;

    public static void main(String[] args) throws IOException {
        for (String line : Files.readAllLines(Path.of("README.md"))) {
            if (line.startsWith("x.")) {
                lines.add(line);
            }
        }
        ExtentVolume x = new ExtentVolume();
        answers("x.write(0, 0, 4, 10)", x.write(0, 0, 4, 10));
        answers("x.share(0, 1, 0, 4)", x.share(0, 1, 0, 4));
        answers("x.uses(2)", x.uses(2));
        answers("x.write(1, 2, 1, 99)", x.write(1, 2, 1, 99));
        answers("x.read(0, 2)", x.read(0, 2));
        answers("x.read(1, 2)", x.read(1, 2));
        answers("x.place(1, 2)", x.place(1, 2));
        answers("x.extents(1)", x.extents(1));
        answers("x.pack(1)", x.pack(1));
        answers("x.place(1, 2)", x.place(1, 2));
        answers("x.punch(0, 0, 4)", x.punch(0, 0, 4));
        answers("x.free(0, 0, 1)", x.free(0, 0, 1));
        answers("x.room(3, 1)", x.room(3, 1));
        answers("x.changes()", x.changes());
        answers("x.back(3)", x.back(3));
        answers("x.read(1, 2)", x.read(1, 2));
        answers("x.settle()", x.settle());
        answers("x.back(1)", x.back(1));
        Check.due("calls in README.md", lines.size(), next);
        Check.end();
    }

    private static void answers(String call, Object got) {
        String line = next < lines.size() ? lines.get(next) : "";
        String[] parts = line.split("; +// |: ");
        boolean isSame = parts.length > 1 && parts[0].equals(call) && parts[1].equals(got.toString());
        Check.due("README.md, of " + call + ", which answers " + got + ": " + line, isSame, true);
        next++;
    }
}
