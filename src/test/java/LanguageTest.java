import java.io.IOException;
import java.nio.file.Files;
import java.nio.file.Path;
import java.util.ArrayList;
import java.util.List;
import java.util.regex.Matcher;
import java.util.regex.Pattern;

/** What of LANGUAGE.md can be seen in the text of the class. */
public final class LanguageTest {
    private static final Pattern METHOD = Pattern.compile("^ +(private|public) [^=;]*?(\\w+)\\(([^)]*)\\) \\{$");
    private static final Pattern PUBLIC = Pattern.compile("public (static final int|int|NextStall\\()");
    private static final Pattern CLASS = Pattern.compile("^ *(public|private static) final class (\\w+)");
    private static final Pattern FIELD = Pattern.compile("^ +private (final )?[\\w\\[\\]]+ \\w+( = .*)?;$");

    public static void main(String[] args) throws IOException {
        String source = Files.readString(Path.of("src/main/java/NextStall.java"));
        String code = source.replaceAll("(?s)/\\*.*?\\*/", "").replaceAll("//.*", "");
        for (String word : List.of("throw", "throws", "try", "catch", "synchronized", "assert", "import", "package",
                "protected", "instanceof", "Exception", "double", "float", "equals", "hashCode", "toString", "yield")) {
            Due.is("the word " + word, count(code, "\\b" + word + "\\b"), 0);
        }
        Due.is("->", count(code, "->"), 0);
        Due.is("::", count(code, "::"), 0);
        Due.is("static fields that are not final", count(code, "static (?!final)[\\w\\[\\]]+ \\w+( =|;)"), 0);
        Due.is("signs beyond 126", count(source, "[^\\n\\x20-\\x7e]"), 0);
        Due.is("public members", count(code, PUBLIC.pattern()), 37);
        Due.is("classes, 12 at most", Math.max(12, count(code, "\\bclass ")), 12);
        methods(code);
        fields(code);
        Due.end();
    }

    private static int count(String text, String pattern) {
        Matcher matcher = Pattern.compile(pattern).matcher(text);
        int many = 0;
        while (matcher.find()) {
            many++;
        }
        return many;
    }

    private static void methods(String code) {
        String[] lines = code.split("\n");
        List<String> open = new ArrayList<>();
        List<String> hidden = new ArrayList<>();
        for (int i = 0; i < lines.length; i++) {
            Matcher method = METHOD.matcher(lines[i]);
            if (!method.find()) {
                continue;
            }
            (method.group(1).equals("public") ? open : hidden).add(method.group(2));
            String end = lines[i].replaceAll("\\S.*", "") + "}";
            int to = i;
            while (!lines[to].equals(end)) {
                to++;
            }
            Due.is("lines of " + method.group(2) + ", 60 at most", Math.max(60, to - i + 1), 60);
            Due.is("parameters of " + method.group(2), Math.max(7, method.group(3).split(",").length), 7);
        }
        Due.is("public methods", open.size(), 36);
        hidden.retainAll(open);
        Due.is("private methods by a public name " + hidden, hidden.size(), 0);
    }

    private static void fields(String code) {
        String name = "";
        int many = 0;
        for (String line : code.split("\n")) {
            Matcher opened = CLASS.matcher(line);
            if (opened.find()) {
                name = opened.group(2);
                many = 0;
            } else if (FIELD.matcher(line).find()) {
                many++;
                Due.is("fields of " + name + ", 20 at most", Math.max(20, many), 20);
            }
        }
    }
}
