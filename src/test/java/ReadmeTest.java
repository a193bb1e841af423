import java.io.ByteArrayOutputStream;
import java.io.PrintStream;
import java.net.URL;
import java.net.URLClassLoader;
import java.nio.file.Files;
import java.nio.file.Path;
import java.util.ArrayList;
import java.util.List;
import java.util.regex.Matcher;
import java.util.regex.Pattern;
import javax.tools.ToolProvider;

/** The program in README.md compiles, and prints what the comments behind its lines tell. */
final class ReadmeTest {
    public static void main(String[] args) throws Exception {
        Matcher block = Pattern.compile("(?s)```java\n(.*?)```").matcher(Files.readString(Path.of("README.md")));
        Kit.due("a program in README.md", block.find() ? 1 : 0, 1);
        String program = block.group(1);
        List<Long> want = new ArrayList<>();
        Matcher told = Pattern.compile("println\\(.*\\); *// (-?\\d+)").matcher(program);
        while (told.find()) {
            want.add(Long.parseLong(told.group(1)));
        }
        List<Long> got = printed(program);
        Kit.due("lines", got.size(), want.size());
        Kit.due("some lines", want.size() > 5 ? 1 : 0, 1);
        for (int i = 0; i < Math.min(got.size(), want.size()); i++) {
            Kit.due("line " + i + " of README.md's program", got.get(i), want.get(i));
        }
        Kit.end("ReadmeTest");
    }

    private static List<Long> printed(String program) throws Exception {
        Path dir = Files.createTempDirectory("readme");
        Path source = dir.resolve("Example.java");
        Files.writeString(source, program);
        String classes = System.getProperty("java.class.path");
        int code = ToolProvider.getSystemJavaCompiler().run(null, null, null, "-cp", classes, "-d", dir.toString(), source.toString());
        Kit.due("the program compiles", code, 0);
        ByteArrayOutputStream bytes = new ByteArrayOutputStream();
        PrintStream screen = System.out;
        try (URLClassLoader loader = new URLClassLoader(new URL[] {dir.toUri().toURL()}, ReadmeTest.class.getClassLoader())) {
            System.setOut(new PrintStream(bytes, true));
            loader.loadClass("Example").getMethod("main", String[].class).invoke(null, (Object) new String[0]);
        } finally {
            System.setOut(screen);
            for (Path file : List.of(source, dir.resolve("Example.class"), dir)) {
                Files.deleteIfExists(file);
            }
        }
        return bytes.toString().lines().map(Long::parseLong).toList();
    }
}
