import java.io.IOException;
import java.lang.reflect.Method;
import java.nio.file.Files;
import java.nio.file.Path;
import java.util.ArrayList;
import java.util.List;

/** SENTENCES.md: what it quotes stands in the document, and the tests that it names are there. */
public final class SentencesTest {
    private static final Path PAGE = Path.of("src/test/SENTENCES.md");
    private static final Path DOCUMENT = Path.of("../shared/DOC.md");
    private static final Path TESTS = Path.of("src/test/java");
    private static final int PROMISES = 26;

    private SentencesTest() {
    }

    public static void main(String[] args) throws IOException {
        testQuotes();
        testThatEachExceptionIsQuoted();
        testThatEachTestRuns();
        Check.end();
    }

    private static String plain(String text) {
        return text.replaceAll("\\s+", " ");
    }

    /** The document's part about a promise; 0 is all that stands outside of promises. */
    private static String part(String document, int promise) {
        if (promise > 0) {
            int begin = document.indexOf("\n## Promise " + promise + ":");
            int end = document.indexOf("\n## ", begin + 1);
            return begin < 0 ? "" : document.substring(begin, end);
        }
        return document.substring(0, document.indexOf("\n## Promise 1:"));
    }

    private static void testQuotes() throws IOException {
        String document = Files.readString(DOCUMENT);
        int promise = -1;
        boolean[] hasQuotes = new boolean[PROMISES + 1];
        for (String line : Files.readAllLines(PAGE)) {
            if (line.startsWith("## Promise ")) {
                promise = Integer.parseInt(line.substring(11, line.indexOf(':')));
            }
            if (!line.startsWith("- ")) {
                continue;
            }
            int end = line.lastIndexOf("\": ");
            String quote = line.substring(3, Math.max(3, end));
            hasQuotes[promise] = true;
            Check.same("\"" + quote + "\" stands in promise " + promise, true,
                    plain(part(document, promise)).contains(plain(quote)));
            String[] tests = line.substring(end + 3).split(", ");
            for (String test : tests) {
                Check.same("there is " + test, true, isThere(test));
            }
        }
        for (int i = 0; i <= PROMISES; i++) {
            Check.same("promise " + i + " is quoted", true, hasQuotes[i]);
        }
    }

    private static boolean isThere(String test) {
        int dot = test.indexOf('.');
        try {
            for (Method method : Class.forName(test.substring(0, dot)).getDeclaredMethods()) {
                if (method.getName().equals(test.substring(dot + 1))) {
                    return true;
                }
            }
        } catch (ClassNotFoundException e) {
            return false;
        }
        return false;
    }

    private static void testThatEachExceptionIsQuoted() throws IOException {
        String document = Files.readString(DOCUMENT);
        String page = Files.readString(PAGE) + "\n## ";
        for (int promise = 1; promise <= PROMISES; promise++) {
            for (String line : part(document, promise).split("\n")) {
                if (line.startsWith("Throws ")) {
                    Check.same("promise " + promise + " quotes: " + line, true,
                            part(page, promise).contains("- \"" + line + "\": "));
                }
            }
        }
    }

    // A test that no main method runs would never fail.
    private static void testThatEachTestRuns() throws IOException {
        List<Path> files = new ArrayList<>();
        try (var all = Files.newDirectoryStream(TESTS, "*Test.java")) {
            all.forEach(files::add);
        }
        Check.same("there are tests", true, files.size() > 10);
        for (Path file : files) {
            String text = Files.readString(file);
            for (String line : text.split("\n")) {
                if (line.matches(" +private static void test\\w+\\(.*")) {
                    String name = line.substring(line.indexOf("test"), line.indexOf('('));
                    int uses = text.split("\\b" + name + "\\(", -1).length - 1;
                    Check.same(file.getFileName() + " runs " + name, true, uses > 1);
                }
            }
        }
    }
}
