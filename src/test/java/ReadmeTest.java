import java.io.IOException;
import java.nio.file.Files;
import java.nio.file.Path;
import java.util.ArrayList;
import java.util.List;
import java.util.function.Supplier;

/** The example in README.md answers what its comments say. */
public final class ReadmeTest {
    private static final Check check = new Check("README.md");

    // Each call once as README.md writes it and once to be run: they stay alike because the lines of
    // the example, in their order, must be these and no others.
    private final List<String> lines = new ArrayList<>();

    public static void main(String[] args) throws IOException {
        new ReadmeTest().go(exampleOf(Path.of("README.md")));
        check.end();
    }

    private void go(List<String> example) {
        CoinBag bags = new CoinBag();
        lines.add("CoinBag bags = new CoinBag();");
        row(example, "bags.set(0, 5, 1L, 10L);", () -> bags.set(0, 5, 1L, 10L));
        row(example, "bags.put(0, 5, 1L, 4L);", () -> bags.put(0, 5, 1L, 4L));
        row(example, "bags.set(0, 9, -1L, -2L);", () -> bags.set(0, 9, -1L, -2L));
        row(example, "bags.set(1, 5, 1L, 3L);", () -> bags.set(1, 5, 1L, 3L));
        row(example, "bags.less(0, 1, 2);", () -> bags.less(0, 1, 2));
        row(example, "bags.amount(2, 5, 1L);", () -> bags.amount(2, 5, 1L));
        row(example, "bags.size(2);", () -> bags.size(2));
        row(example, "bags.at(2, 1, 0);", () -> bags.at(2, 1, 0));
        row(example, "bags.compare(0, 2);", () -> bags.compare(0, 2));
        row(example, "bags.part(0, 1, 0);", () -> bags.part(0, 1, 0));
        row(example, "bags.into(0, 1);", () -> bags.into(0, 1));
        row(example, "bags.into(0, 7);", () -> bags.into(0, 7));
        row(example, "bags.put(0, 5, 1L, Long.MAX_VALUE);", () -> bags.put(0, 5, 1L, Long.MAX_VALUE));
        row(example, "bags.amount(0, 5, 1L);", () -> bags.amount(0, 5, 1L));
        row(example, "bags.size(8);", () -> bags.size(8));
        row(example, "bags.set(0, 65536, 1L, 1L);", () -> bags.set(0, 65536, 1L, 1L));
        check.due("the calls of the example", lines, example.stream().map(ReadmeTest::callOf).toList());
    }

    private void row(List<String> example, String call, Supplier<Object> run) {
        int place = lines.size();
        lines.add(call);
        String told = place < example.size() ? answerOf(example.get(place)) : "nothing";
        check.due(call, told, answer(run));
    }

    private static String answer(Supplier<Object> run) {
        try {
            return String.valueOf(run.get());
        } catch (RuntimeException e) {
            return "throws " + e.getClass().getSimpleName();
        }
    }

    private static String callOf(String line) {
        return line.split("//")[0].strip();
    }

    /** What stands in a line's comment before the first colon. */
    private static String answerOf(String line) {
        String[] parts = line.split("//");
        return parts.length < 2 ? "nothing" : parts[1].split(":")[0].strip();
    }

    private static List<String> exampleOf(Path readme) throws IOException {
        List<String> all = Files.readAllLines(readme);
        int first = all.indexOf("```java") + 1;
        int last = first + all.subList(first, all.size()).indexOf("```");
        check.yes("there is an example", first > 0 && last > first);
        return first > 0 && last > first ? all.subList(first, last) : List.of();
    }
}
