import java.io.ByteArrayOutputStream;
import java.io.PrintStream;
import java.net.URL;
import java.net.URLClassLoader;
import java.nio.file.Files;
import java.nio.file.Path;
import java.util.Comparator;
import java.util.List;
import java.util.regex.Matcher;
import java.util.regex.Pattern;
import java.util.stream.Stream;
import javax.tools.ToolProvider;

/** The program in README.md compiles, and prints what the comments beside its println calls say. */
public final class ReadmeTest {
    private static final Check CHECK = new Check();

    public static void main(String[] args) throws Exception {
        String readme = Files.readString(Path.of("README.md"));
        Matcher block = Pattern.compile("(?s)```java\n(.*?)```").matcher(readme);
        if (block.find()) {
            compare(block.group(1), printed(block.group(1)));
        } else {
            CHECK.due("programs in README.md", 0, 1);
        }
        CHECK.end();
    }

    private static void compare(String program, List<String> printed) {
        Matcher told = Pattern.compile("System\\.out\\.println\\(.*\\); *// (.*)").matcher(program);
        int line = 0;
        while (told.find()) {
            boolean same = line < printed.size() && told.group(1).matches(Pattern.quote(printed.get(line)) + "([:,].*)?");
            CHECK.due("line " + line + ", told as: " + told.group(1), same ? 1 : 0, 1);
            line++;
        }
        CHECK.due("lines printed", printed.size(), line);
    }

    private static List<String> printed(String program) throws Exception {
        Path room = Files.createTempDirectory("readme");
        try {
            Path source = Files.writeString(room.resolve("Try.java"), program);
            String classes = System.getProperty("java.class.path");
            int code = ToolProvider.getSystemJavaCompiler().run(null, null, null, "-cp", classes, "-d", room.toString(), source.toString());
            CHECK.due("javac of the program in README.md", code, 0);
            return code == 0 ? run(room) : List.of();
        } finally {
            clear(room);
        }
    }

    private static List<String> run(Path classes) throws Exception {
        PrintStream out = System.out;
        ByteArrayOutputStream caught = new ByteArrayOutputStream();
        try (URLClassLoader loader = new URLClassLoader(new URL[] {classes.toUri().toURL()})) {
            System.setOut(new PrintStream(caught, true));
            loader.loadClass("Try").getMethod("main", String[].class).invoke(null, (Object) new String[0]);
        } finally {
            System.setOut(out);
        }
        return caught.toString().lines().toList();
    }

    private static void clear(Path room) throws Exception {
        try (Stream<Path> all = Files.walk(room)) {
            for (Path path : all.sorted(Comparator.reverseOrder()).toList()) {
                Files.delete(path);
            }
        }
    }
}
