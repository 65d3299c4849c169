import java.io.IOException;
import java.nio.file.Files;
import java.nio.file.Path;
import java.util.List;
import java.util.stream.Collectors;

/** The lines of README.md that tell an answer ("statement; // answer: why") stand there, and answer so. */
public final class ReadmeTest {
    private final List<String> told;

    private ReadmeTest(List<String> told) {
        this.told = told;
    }

    public static void main(String[] args) throws IOException {
        List<String> told = Files.readAllLines(Path.of("README.md")).stream()
                .filter(line -> line.matches(".*; +// (-?\\d+|true|false): .*"))
                .map(line -> line.strip().replaceAll(" +// (-?\\w+): .*", " $1"))
                .collect(Collectors.toList());
        ReadmeTest test = new ReadmeTest(told);
        test.yard();
        test.fit();
        Check.due("lines of README.md that were not run: " + told, told.size(), 0);
        Check.end();
    }

    private void line(String statement, long got, long want) {
        Check.due(statement, got, want);
        Check.due("README.md tells: " + statement + " " + want, told.remove(statement + " " + want), true);
    }

    private void yard() {
        BreakersYard yard = new BreakersYard();
        line("yard.sheet(1);", yard.sheet(1), 0);
        line("yard.row(0, 0, 7);", yard.row(0, 0, 7), 7);
        long[] door = {0, 10, -1, 30, 5000, 0, 1600};
        for (int i = 0; i < door.length - 1; i++) {
            Check.due("put", yard.put(0, 0, i, door[i]), 1);
        }
        line("yard.put(0, 0, i, door[i]);", yard.put(0, 0, 6, door[6]), 1);
        line("yard.part(0, 0, 0);", yard.part(0, 0, 0), 0);
        int car = yard.car(0, 1995, 3, 0);
        line("int car = yard.car(0, 1995, 3, 0);", car, 0);
        line("yard.best(car, 20);", yard.best(car, 20), 1);
        line("yard.worth(car, 20);", yard.worth(car, 20), 1000);
        int item = yard.take(car, 0);
        line("int item = yard.take(car, 0);", item, 0);
        line("yard.undo();", yard.undo(), 3);
        item = yard.take(car, 0);
        line("item = yard.take(car, 0);", item, 1);
        line("yard.day(30);", yard.day(30), 30);
        line("yard.find(10, 0, 1995, 0);", yard.find(10, 0, 1995, 0), 1);
        line("yard.sell(yard.found(0), 0);", yard.sell(yard.found(0), 0), 1400);
        line("yard.back(item, 1);", yard.back(item, 1), 1400);
        line("yard.drain(car);", yard.drain(car), 1);
        line("yard.papers(car);", yard.papers(car), 1);
        line("yard.press(car);", yard.press(car), 0);
        line("yard.grams(0, 0);", yard.grams(0, 0), 5000);
        line("yard.grams(0, 5);", yard.grams(0, 5), 5000);
    }

    private void fit() {
        BreakersYard yard = new BreakersYard();
        line("yard.feed(0x4D307C4B, 0x61000000, 0, 0, 0);", yard.feed(0x4D307C4B, 0x61000000, 0, 0, 0), 20);
        int fit = yard.fit(5);
        line("int fit = yard.fit(5);", fit, 0);
        boolean is = yard.says(fit, 3, 1995, 3);
        Check.due("says", is, true);
        Check.due("README.md tells it", told.remove("boolean is = yard.says(fit, 3, 1995, 3); true"), true);
        line("yard.feed(0x4D307C7C, 0, 0, 0, 0);", yard.feed(0x4D307C7C, 0, 0, 0, 0), 20);
        line("yard.fit(4);", yard.fit(4), -5);
    }
}
