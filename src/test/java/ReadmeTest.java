import java.io.IOException;
import java.io.StringWriter;
import java.net.URL;
import java.net.URLClassLoader;
import java.nio.file.Files;
import java.nio.file.Path;
import java.util.ArrayList;
import java.util.Arrays;
import java.util.List;
import java.util.regex.Matcher;
import java.util.regex.Pattern;
import javax.tools.JavaCompiler;
import javax.tools.JavaFileObject;
import javax.tools.StandardJavaFileManager;
import javax.tools.ToolProvider;

/**
 * The calls that README.md shows, compiled and run as they stand there, with the answers that it gives for them.
 * A line of its Java is {@code HeardPlaces x = new HeardPlaces();}, or one call with its answer behind it:
 * {@code int thing = x.thing(0, 0);  // 1: words}, where the answer is a number or the name of a constant.
 */
public final class ReadmeTest {
    private static final Pattern NEW = Pattern.compile("HeardPlaces x = new HeardPlaces\\(\\);");
    private static final Pattern CALL =
            Pattern.compile("((?:int|long) (\\w+) = )?(x\\.(\\w+)\\([^;]*\\));\\s+// (-?\\d+|[A-Z]+)(?:: .+)?");
    private static final Pattern QUOTE = Pattern.compile("\"([^\"]+)\"");
    private static final Pattern CONSTANT = Pattern.compile("`([A-Z]+)` \\((-\\d+)\\)");
    private static final Pattern NAMED_CALL = Pattern.compile("`(\\w+)\\(\\)`");
    private static final String HEAD = """
            public final class Shown {
            private static void due(java.util.List<String> wrong, String line, long got, long due) {
                if (got != due) { wrong.add(line + ", but it answered " + got); }
            }
            public static void run(java.util.List<String> wrong) {
            """;
    private static final List<String> wrong = new ArrayList<>();
    private static int shown = 0;

    public static void main(String[] args) throws Exception {
        List<List<String>> pieces = piecesOf(Files.readAllLines(Path.of("README.md")));
        for (List<String> piece : pieces) {
            run(piece);
        }
        if (pieces.isEmpty()) {
            wrong.add("README.md shows no Java");
        }
        String words = wordsOf(Files.readString(Path.of("README.md")));
        seekQuotes(words, oneLine(Files.readString(Path.of("../shared/DOC.md"))));
        seekConstants(words);
        seekCalls(words);
        for (String line : wrong) {
            System.out.println(line);
        }
        if (!wrong.isEmpty()) {
            System.exit(1);
        }
        System.out.println(shown + " calls of README.md answer as it says");
    }

    private static List<List<String>> piecesOf(List<String> readme) {
        List<List<String>> pieces = new ArrayList<>();
        List<String> open = null;
        for (String line : readme) {
            if (line.equals("```java")) {
                open = new ArrayList<>();
                pieces.add(open);
            } else if (line.startsWith("```")) {
                open = null;
            } else if (open != null && !line.isBlank()) {
                open.add(line);
            }
        }
        return pieces;
    }

    // Each piece must run by itself, as a reader would paste it.
    private static void run(List<String> piece) throws Exception {
        StringBuilder body = new StringBuilder();
        for (String line : piece) {
            Matcher call = CALL.matcher(line);
            if (NEW.matcher(line).matches()) {
                body.append(line).append('\n');
            } else if (call.matches()) {
                body.append(checked(line, call));
                shown++;
            } else {
                wrong.add("not a call with its answer: " + line);
            }
        }
        compileAndRun(body.toString());
    }

    private static String checked(String line, Matcher call) {
        String answer = call.group(5);
        String due = Character.isLetter(answer.charAt(0)) ? "HeardPlaces." + answer : answer + "L";
        String first = call.group(1) == null ? "" : line + "\n";
        String got = call.group(1) == null ? call.group(3) : call.group(2);
        return first + "due(wrong, \"" + line.replace("\"", "\\\"") + "\", " + got + ", " + due + ");\n";
    }

    private static String oneLine(String text) {
        return text.replaceAll("\\s+", " ");
    }

    private static String wordsOf(String readme) {
        return oneLine(readme.replaceAll("(?s)```.*?```", " "));
    }

    // README.md says no more of the answers than the document, and where it quotes, just that.
    private static void seekQuotes(String words, String document) {
        Matcher quote = QUOTE.matcher(words);
        while (quote.find()) {
            if (!document.contains(quote.group(1))) {
                wrong.add("not in DOC.md: " + quote.group(1));
            }
        }
    }

    private static void seekConstants(String words) throws Exception {
        Matcher constant = CONSTANT.matcher(words);
        while (constant.find()) {
            if (HeardPlaces.class.getField(constant.group(1)).getInt(null) != Integer.parseInt(constant.group(2))) {
                wrong.add("not the constant's number: " + constant.group());
            }
        }
    }

    private static void seekCalls(String words) {
        Matcher call = NAMED_CALL.matcher(words);
        while (call.find()) {
            String name = call.group(1);
            if (Arrays.stream(HeardPlaces.class.getMethods()).noneMatch(m -> m.getName().equals(name))) {
                wrong.add("not a call: " + name);
            }
        }
    }

    private static void compileAndRun(String body) throws Exception {
        Path place = Files.createTempDirectory("readme");
        Path source = place.resolve("Shown.java");
        Files.writeString(source, HEAD + body + "}\n}\n");
        String faults = compile(source, place);
        if (!faults.isEmpty()) {
            wrong.add("README.md's Java doesn't compile: " + faults);
        } else {
            try (URLClassLoader loader = new URLClassLoader(new URL[] {place.toUri().toURL()})) {
                loader.loadClass("Shown").getMethod("run", List.class).invoke(null, wrong);
            }
        }
        clear(place);
    }

    private static String compile(Path source, Path place) throws IOException {
        JavaCompiler compiler = ToolProvider.getSystemJavaCompiler();
        StringWriter told = new StringWriter();
        try (StandardJavaFileManager files = compiler.getStandardFileManager(null, null, null)) {
            Iterable<? extends JavaFileObject> sources = files.getJavaFileObjects(source);
            List<String> options = List.of("-d", place.toString(), "-cp", System.getProperty("java.class.path"));
            return compiler.getTask(told, files, null, options, null, sources).call() ? "" : told.toString();
        }
    }

    private static void clear(Path place) throws IOException {
        Files.deleteIfExists(place.resolve("Shown.class"));
        Files.deleteIfExists(place.resolve("Shown.java"));
        Files.deleteIfExists(place);
    }
}
