import java.io.IOException;
import java.lang.reflect.Field;
import java.lang.reflect.Method;
import java.lang.reflect.Modifier;
import java.nio.file.Files;
import java.nio.file.Path;
import java.util.List;
import java.util.stream.Collectors;
import java.util.stream.Stream;

/** README.md names every call, constant and test, and its example answers as it says. */
public final class ReadmeTest {
    private static final Check CHECK = new Check();
    private static final Path TESTS = Path.of("src/test/java");

    public static void main(String[] args) throws IOException {
        String readme = Files.readString(Path.of("README.md"));
        namesTheFace(readme);
        namesTheTests(readme);
        hasTheExample(readme);
        example();
        CHECK.end();
    }

    private static void namesTheFace(String readme) {
        CHECK.part("README.md names the face");
        for (Method method : PackShelf.class.getDeclaredMethods()) {
            if (Modifier.isPublic(method.getModifiers())) {
                CHECK.due(method.getName(), readme.contains("`" + method.getName() + "("), true);
            }
        }
        for (Field field : PackShelf.class.getDeclaredFields()) {
            if (Modifier.isPublic(field.getModifiers())) {
                CHECK.due(field.getName(), readme.contains("`" + field.getName() + "`"), true);
            }
        }
    }

    private static void namesTheTests(String readme) throws IOException {
        CHECK.part("README.md names the tests");
        try (Stream<Path> files = Files.list(TESTS)) {
            for (Path file : files.collect(Collectors.toList())) {
                String name = file.getFileName().toString().replace(".java", "");
                if (name.endsWith("Test")) {
                    CHECK.due(name, readme.contains("`" + name + "`"), true);
                }
            }
        }
    }

    /** The lines of the example are looked for in the method below, so that it can't tell of other calls. */
    private static void hasTheExample(String readme) throws IOException {
        CHECK.part("the example of README.md is the one that is tested");
        String own = Files.readString(TESTS.resolve("ReadmeTest.java"));
        int from = readme.indexOf("```java\n") + 8;
        List<String> lines = readme.substring(from, readme.indexOf("```", from)).lines().collect(Collectors.toList());
        CHECK.due("lines", lines.size(), 10);
        for (String line : lines) {
            String call = line.replaceAll(" *//.*", "").replaceAll(";$", "").replaceAll("^int ", "");
            CHECK.due(call, own.contains(call), true);
        }
    }

    private static void example() {
        CHECK.part("example");
        PackShelf shelf = new PackShelf();
        CHECK.due("type", shelf.type(0x68656C6C6FL, 5), 5);
        int blob = shelf.blob();
        CHECK.due("blob", blob, 0);
        CHECK.due("its bytes", PackTool.contentOf(shelf, blob), PackTool.bytes('h', 'e', 'l', 'l', 'o'));
        CHECK.due("entry", shelf.entry(0, blob), 1);
        int tree = shelf.tree();
        CHECK.due("tree", tree, 1);
        CHECK.due("its letter", shelf.byteOf(tree, 7), 'a');
        int commit = shelf.commit(tree, -1, 7);
        CHECK.due("commit", commit, 2);
        CHECK.due("branch", shelf.branch(0, commit), true);
        CHECK.due("sweep", shelf.sweep(), 0);
        int length = shelf.pack();
        CHECK.due("pack", length, shelf.packed());
        CHECK.due("its last byte", shelf.packByte(length - 1) >= 0, true);
        CHECK.due("behind it", shelf.packByte(length), PackShelf.BAD);
        CHECK.due("unpack", shelf.unpack(), 0);
    }
}
