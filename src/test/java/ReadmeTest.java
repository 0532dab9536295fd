import java.io.IOException;
import java.lang.reflect.Method;
import java.lang.reflect.Modifier;
import java.nio.file.Files;
import java.nio.file.Path;
import java.util.List;
import java.util.stream.Stream;

/** README.md: its example does what it says, and its tables name what is there. */
public final class ReadmeTest {
    private static final Due DUE = new Due();

    private ReadmeTest() {
    }

    public static void main(String[] args) throws IOException {
        String readme = Files.readString(Path.of("README.md"));
        example();
        exampleIsTheReadmes(readme);
        tables(readme);
        DUE.end();
    }

    /** The lines of README.md, with what their comments say. */
    private static void example() {
        SliceDepot depot = new SliceDepot(8, 12, 24);
        DUE.yes("a directory named 1", depot.create(1, 2));
        DUE.yes("a file named 2 in it", depot.create(1 | 2 << 5, 1));
        DUE.is("16 bytes", depot.append(1 | 2 << 5, 100, 16), 16);
        int image = depot.make();
        DUE.is("the first image", image, 0);
        DUE.yes("a seed", depot.seed(0));
        DUE.is("both entries go", depot.remove(1), 2);
        int bytes = depot.extract(image);
        DUE.is("the stream", bytes, 25);
        for (int i = 0; i < 3; i++) {
            DUE.is("byte " + i + " of the file", depot.output(5 + i), 100 + 37 * i);
        }
        int asked = depot.counts(0);
        DUE.is("the seed had all", asked, 0);
        int entries = depot.unpack();
        DUE.is("the tree again", entries, 2);
        DUE.is("its bytes again", depot.size(1), 16);
    }

    private static void exampleIsTheReadmes(String readme) throws IOException {
        String here = Files.readString(Path.of("src/test/java/ReadmeTest.java"));
        int begin = readme.indexOf("```java\n") + 8;
        List<String> lines = readme.substring(begin, readme.indexOf("```", begin)).lines().toList();
        DUE.yes("the example has lines", lines.size() >= 10);
        for (String line : lines) {
            String call = line.replaceAll(";.*", "");
            DUE.yes("this test asks " + call, here.contains(call));
        }
    }

    private static void tables(String readme) throws IOException {
        for (Method m : SliceDepot.class.getDeclaredMethods()) {
            boolean open = Modifier.isPublic(m.getModifiers());
            DUE.yes("README.md names " + m.getName(), !open || readme.contains("| `" + m.getName() + "("));
        }
        for (Class<?> c : SliceDepot.class.getDeclaredClasses()) {
            DUE.yes("README.md names " + c.getSimpleName(), readme.contains("| `" + c.getSimpleName() + "` |"));
        }
        try (Stream<Path> files = Files.list(Path.of("src/test/java"))) {
            for (Path file : files.toList()) {
                String name = file.getFileName().toString().replace(".java", "");
                DUE.yes("README.md names " + name, !name.endsWith("Test") || readme.contains("`" + name + "`"));
            }
        }
    }
}
