import java.io.IOException;
import java.lang.reflect.Method;
import java.lang.reflect.Modifier;
import java.net.URL;
import java.net.URLClassLoader;
import java.nio.file.Files;
import java.nio.file.Path;
import java.util.ArrayList;
import java.util.Comparator;
import java.util.List;
import java.util.regex.Matcher;
import java.util.regex.Pattern;
import java.util.stream.Stream;
import javax.tools.ToolProvider;

/**
 * What README.md says is so: its example answers what it tells, its part in the document's words is the document's,
 * whole and word for word, and it names the tests that there are. Runs in the project's folder.
 */
public final class ReadmeTests {
    private static final String CLASS = "src/main/java/CensoredThreads.java";
    private static final Pattern BLOCK = Pattern.compile("(?ms)^```java\n(.*?)^```$");
    private static final Pattern CALL = Pattern.compile("x\\.(\\w+)\\(.*\\);");
    private static final Pattern TOLD = Pattern.compile("(x\\.\\w+\\(.*\\)); +// (-?\\d+)(:.*)?");

    private static final Due due = new Due();

    public static void main(String[] args) throws Exception {
        String readme = Files.readString(Path.of("README.md"));
        exampleAnswers(readme);
        exampleCallsAll(readme);
        String part = partInItsWords(readme);
        wordsAreTheDocuments(part);
        wordsAreAllOfIt(part);
        testsAreNamed(readme);
        due.end("ReadmeTests");
    }

    private static List<String> blocks(String readme) {
        List<String> blocks = new ArrayList<>();
        Matcher block = BLOCK.matcher(readme);
        while (block.find()) {
            blocks.add(block.group(1));
        }
        return blocks;
    }

    // ---- the example

    private static void exampleAnswers(String readme) throws Exception {
        Path folder = Files.createTempDirectory("readme");
        try {
            Path source = folder.resolve("Example.java");
            Files.writeString(source, program(blocks(readme)));
            int compiled = ToolProvider.getSystemJavaCompiler().run(null, null, null, "-d", folder.toString(), CLASS, source.toString());
            due.is("javac of the example", compiled, 0);
            if (compiled == 0) {
                run(folder);
            }
        } finally {
            clear(folder);
        }
    }

    /** A function stands in the program as it is; each call of the other blocks is asked for the answer that is told. */
    private static String program(List<String> blocks) {
        StringBuilder functions = new StringBuilder();
        StringBuilder calls = new StringBuilder();
        for (String block : blocks) {
            if (block.startsWith("static ")) {
                functions.append(block);
            } else {
                block.lines().forEach(line -> calls.append(TOLD.matcher(line).replaceFirst("due($2, $1);")).append('\n'));
            }
        }
        return "public final class Example {\n"
            + "public static final java.util.List<Integer> WANTED = new java.util.ArrayList<>(), GOT = new java.util.ArrayList<>();\n"
            + "static void due(int wanted, int got) { WANTED.add(wanted); GOT.add(got); }\n"
            + functions + "public static void run() {\n" + calls + "}\n}\n";
    }

    private static void run(Path folder) throws Exception {
        try (URLClassLoader loader = new URLClassLoader(new URL[] {folder.toUri().toURL()}, null)) {
            Class<?> example = loader.loadClass("Example");
            example.getMethod("run").invoke(null);
            List<?> wanted = (List<?>) example.getField("WANTED").get(null);
            List<?> got = (List<?>) example.getField("GOT").get(null);
            due.holds("the example makes calls", !wanted.isEmpty());
            for (int i = 0; i < wanted.size(); i++) {
                due.is("the example's call " + (i + 1), (Integer) got.get(i), (Integer) wanted.get(i));
            }
        }
    }

    private static void clear(Path folder) throws IOException {
        try (Stream<Path> files = Files.walk(folder)) {
            for (Path file : files.sorted(Comparator.reverseOrder()).toList()) {
                Files.delete(file);
            }
        }
    }

    private static void exampleCallsAll(String readme) {
        List<String> called = new ArrayList<>();
        for (String block : blocks(readme)) {
            for (String line : block.lines().toList()) {
                Matcher call = CALL.matcher(line);
                if (call.lookingAt()) {
                    called.add(call.group(1));
                    due.holds("README.md tells what '" + line + "' answers", TOLD.matcher(line).matches());
                }
            }
        }
        for (Method method : CensoredThreads.class.getDeclaredMethods()) {
            if (Modifier.isPublic(method.getModifiers())) {
                due.holds("the example calls " + method.getName(), called.contains(method.getName()));
            }
        }
    }

    // ---- the document's words

    private static String partInItsWords(String readme) {
        int start = readme.indexOf("## The class, in the document's words\n");
        int end = readme.indexOf("## Running the tests\n");
        boolean isThere = start >= 0 && end > start;
        due.holds("README.md has a part in the document's words, and one on the tests behind it", isThere);
        return isThere ? readme.substring(start, end) : "";
    }

    private static String withoutMarks(String line) {
        return line.strip().replaceFirst("^(-|#+) ", "");
    }

    private static void wordsAreTheDocuments(String part) {
        String document = Sentences.documentInOneLine();
        for (String line : part.lines().toList()) {
            if (!line.startsWith("#")) {
                due.holds("DOC.md must say: " + line, document.isEmpty() || document.contains(withoutMarks(line)));
            }
        }
    }

    /** Of each paragraph, but for the face as Java tells it, and for those that tell where calls stand in the face. */
    private static void wordsAreAllOfIt(String part) throws IOException {
        Path document = Path.of("../shared/DOC.md");
        if (!Files.exists(document)) {
            return;
        }
        StringBuilder words = new StringBuilder();
        part.lines().forEach(line -> words.append(withoutMarks(line)).append(' '));
        String said = words.toString().replaceAll("\\s+", " ");
        boolean isPart = false;
        int paragraphs = 0;
        for (String line : Files.readAllLines(document)) {
            if (line.startsWith("## ")) {
                isPart = !line.equals("## The public face");
            } else if (isPart && !line.isBlank() && !line.startsWith("#") && !line.startsWith("Ahead of the calls ")) {
                paragraphs++;
                due.holds("README.md must say: " + line, said.contains(withoutMarks(line).replaceFirst("^The constants: ", "")));
            }
        }
        due.holds("paragraphs were found", paragraphs > 50);
    }

    // ---- the tests

    private static void testsAreNamed(String readme) throws IOException {
        List<String> there = new ArrayList<>();
        try (Stream<Path> files = Files.list(Path.of("src/test/java"))) {
            files.forEach(file -> there.add(file.getFileName().toString()));
        }
        for (String file : there) {
            due.holds("README.md names " + file, readme.contains("`" + file + "`"));
        }
        Matcher named = Pattern.compile("`(\\w+\\.java)`").matcher(readme);
        while (named.find()) {
            due.holds(named.group(1) + " is there", there.contains(named.group(1)));
        }
    }
}
