import java.io.IOException;
import java.io.UncheckedIOException;
import java.nio.file.Files;
import java.nio.file.Path;

/** The example of README.md: its lines stand here too, and answer what its comments say. */
public final class ReadmeTest {
    public static void main(String[] args) {
        Check.once("README.md: the example answers what it says", ReadmeTest::example);
        Check.once("README.md: the example is the one that is tested", ReadmeTest::exampleIsThisOne);
        Check.end();
    }

    private static void example() {
        ChainedVectorUnit unit = new ChainedVectorUnit(4, 3);
        unit.setMemory(0, 20);
        unit.setMemory(1, 22);
        unit.emit(ChainedVectorUnit.VLOAD, 0, 0, 1);
        unit.emit(ChainedVectorUnit.VADD, 1, 0, 0);
        unit.emit(ChainedVectorUnit.VSUM, 2, 1, 0);
        int ran = unit.run();
        int sum = unit.scalar(2);
        Check.due("ran", ran, 3);
        Check.due("sum", sum, 84);
        Check.due("run() of the empty program", unit.run(), 0);
    }

    private static void exampleIsThisOne() {
        String tested = read("src/test/java/ReadmeTest.java");
        String readme = read("README.md");
        int start = readme.indexOf("```java\n") + "```java\n".length();
        String shown = readme.substring(start, readme.indexOf("```", start));
        for (String line : shown.split("\n")) {
            String code = line.split("//")[0].strip();
            Check.due("\"" + code + "\" stands in the test", tested.contains(" " + code + "\n"), true);
        }
    }

    private static String read(String file) {
        try {
            return Files.readString(Path.of(file));
        } catch (IOException missing) {
            throw new UncheckedIOException(missing);
        }
    }
}
