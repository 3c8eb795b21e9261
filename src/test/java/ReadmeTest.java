import java.io.IOException;
import java.nio.file.Files;
import java.nio.file.Path;

/** The example of README.md: it stands there as it is run here, and its answers are as told. */
public final class ReadmeTest {
    public static void main(String[] args) throws IOException {
        MeetingKit kit = new MeetingKit();
        int gate = kit.device(2, 1);
        int first = kit.thread();
        int second = kit.thread();
        kit.step(first, gate, 0, 0, 0);
        kit.step(second, gate, 1, 0, 0);
        told("kit.run(10); // 1:", kit.run(10), 1);
        told("kit.outcome(first, 0, 0); // 0:", kit.outcome(first, 0, 0), 0);
        told("kit.passed(gate, 0); // 1:", kit.passed(gate, 0), 1);
        String[] others = {
            "int gate = kit.device(2, 1);", "int first = kit.thread();", "int second = kit.thread();",
            "kit.step(first, gate, 0, 0, 0);", "kit.step(second, gate, 1, 0, 0);",
        };
        for (String line : others) {
            told(line, 0, 0);
        }
        Check.end("readme");
    }

    private static void told(String line, int got, int want) throws IOException {
        String readme = Files.readString(Path.of("README.md")).replaceAll(" +", " ");
        Check.due("README.md has " + line, readme.contains(line), true);
        Check.due(line, got, want);
    }
}
