import java.io.IOException;
import java.net.URL;
import java.net.URLClassLoader;
import java.nio.file.Files;
import java.nio.file.Path;
import java.util.regex.Matcher;
import java.util.regex.Pattern;
import javax.tools.ToolProvider;

/** The Java of README.md compiles, and each of its calls answers the number that stands behind it. */
public final class ReadmeTest {
    private static final Pattern BLOCK = Pattern.compile("(?s)```java\n(.*?)```");
    private static final Pattern ANSWERED = Pattern.compile("(?m)^(stall\\.\\w+\\(.*\\)); *// (-?\\d+).*$");

    public static void main(String[] args) throws IOException, ReflectiveOperationException {
        StringBuilder methods = new StringBuilder();
        StringBuilder calls = new StringBuilder();
        Matcher block = BLOCK.matcher(Files.readString(Path.of("README.md")));
        while (block.find()) {
            (block.group(1).startsWith("static ") ? methods : calls).append(block.group(1));
        }
        int asked = 0;
        for (long[] answer : run(methods.toString(), ANSWERED.matcher(calls).replaceAll("told.add(new long[] {$1, $2});"))) {
            asked++;
            Due.is("call " + asked + " of README.md", answer[0], answer[1]);
        }
        Due.is("calls of README.md, at least 20", Math.min(20, asked), 20);
        Due.end();
    }

    private static Iterable<long[]> run(String methods, String calls) throws IOException, ReflectiveOperationException {
        Path room = Files.createTempDirectory("readme");
        Path source = room.resolve("Readme.java");
        Files.writeString(source, "public final class Readme {\n" + methods
                + "public static Iterable<long[]> told() {\njava.util.List<long[]> told = new java.util.ArrayList<>();\n"
                + calls + "return told;\n}\n}\n");
        int failed = ToolProvider.getSystemJavaCompiler().run(null, null, null,
                "-cp", System.getProperty("java.class.path"), "-d", room.toString(), source.toString());
        Due.is("compiling the Java of README.md", failed, 0);
        if (failed != 0) {
            Due.end();
        }
        try (URLClassLoader loader = new URLClassLoader(new URL[] {room.toUri().toURL()})) {
            @SuppressWarnings("unchecked")
            Iterable<long[]> told = (Iterable<long[]>) loader.loadClass("Readme").getMethod("told").invoke(null);
            return told;
        }
    }
}
