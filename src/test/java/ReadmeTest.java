import java.io.IOException;
import java.nio.file.Files;
import java.nio.file.Path;
import java.util.ArrayList;
import java.util.List;

/** README.md's example: each of its lines answers what stands behind it there. */
public final class ReadmeTest {
    private static final SprinkleNets nets = new SprinkleNets(8, 6);
    private static final List<String> due = new ArrayList<>();

    private static void call(String text, Object answer) {
        due.add("nets." + text + "; // " + answer);
    }

    /** The lines of the example after the first, each cut behind its answer. */
    private static List<String> example() throws IOException {
        List<String> lines = new ArrayList<>();
        for (String line : Files.readAllLines(Path.of("README.md"))) {
            if (line.startsWith("nets.")) {
                lines.add(line.replaceFirst(":[^:]*$", "").replaceFirst("; +//", "; //"));
            }
        }
        return lines;
    }

    public static void main(String[] args) throws IOException {
        call("wall(4, 2, true)", nets.wall(4, 2, true));
        call("reach(30)", nets.reach(30));
        call("place(3, 2)", nets.place(3, 2));
        call("place(7, 5)", nets.place(7, 5));
        call("place(0, 4)", nets.place(0, 4));
        call("seen(3, 2, 5, 2)", nets.seen(3, 2, 5, 2));
        call("reached(0)", nets.reached(0));
        call("left(6)", nets.left(6));
        call("dry(6, 0)", nets.dry(6, 0));
        call("dry(6, 1)", nets.dry(6, 1));
        call("best()", nets.best());
        call("size(1, 10)", nets.size(1, 10));
        call("size(3, 4)", nets.size(3, 4));
        call("pipes(7)", nets.pipes(7));
        call("pipe(7, 1, 0)", nets.pipe(7, 1, 0));
        call("pipe(7, 1, 1)", nets.pipe(7, 1, 1));
        call("pipe(7, 0, 2)", nets.pipe(7, 0, 2));
        call("pipe(7, 0, 3)", nets.pipe(7, 0, 3));
        call("pipe(7, 0, 4)", nets.pipe(7, 0, 4));
        call("lacks(7, 1)", nets.lacks(7, 1));
        call("worst(7)", nets.worst(7));
        List<String> told = example();
        int wrong = told.size() == due.size() ? 0 : 1;
        if (wrong != 0) {
            System.out.println("README.md has " + told.size() + " calls, the test " + due.size());
        }
        for (int i = 0; i < Math.min(told.size(), due.size()); i++) {
            if (!told.get(i).equals(due.get(i))) {
                wrong++;
                System.out.println("README.md tells " + told.get(i) + ", due is " + due.get(i));
            }
        }
        System.out.println(wrong == 0 ? "the example of README.md holds" : "the example of README.md does not hold");
        if (wrong != 0) {
            System.exit(1);
        }
    }
}
