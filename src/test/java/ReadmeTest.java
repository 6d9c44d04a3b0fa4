import java.io.ByteArrayOutputStream;
import java.io.IOException;
import java.io.PrintStream;
import java.lang.reflect.Method;
import java.lang.reflect.Modifier;
import java.nio.charset.StandardCharsets;
import java.nio.file.Files;
import java.nio.file.Path;

/** README.md: its example does what it says, and each call and each rule is told. */
public final class ReadmeTest {
    private static final Path PAGE = Path.of("README.md");
    private static final Path EXAMPLE = Path.of("src/test/java/Example.java");

    private ReadmeTest() {
    }

    public static void main(String[] args) throws IOException {
        String page = Files.readString(PAGE);
        testExample(page);
        testCallsAreTold(page);
        testRulesCompile(page);
        testHowToRunTheTests(page);
        Check.end();
    }

    // What stands between a line that begins a block of code and the line that ends it.
    private static String block(String page, String kind) {
        String begin = "\n```" + kind + "\n";
        int from = page.indexOf(begin) + begin.length();
        return page.substring(from, page.indexOf("```", from));
    }

    private static void testExample(String page) throws IOException {
        Check.same("the example", Files.readString(EXAMPLE), block(page, "java"));
        ByteArrayOutputStream bytes = new ByteArrayOutputStream();
        PrintStream before = System.out;
        System.setOut(new PrintStream(bytes, true, StandardCharsets.UTF_8));
        try {
            Example.main(new String[0]);
        } finally {
            System.setOut(before);
        }
        String printed = bytes.toString(StandardCharsets.UTF_8).replace("\r\n", "\n");
        Check.same("what the example prints", block(page, "text"), printed);
    }

    private static void testCallsAreTold(String page) {
        String table = page.substring(page.indexOf("### The calls"));
        for (Method method : RiddleMill.class.getDeclaredMethods()) {
            if (Modifier.isPublic(method.getModifiers())) {
                String call = "`" + method.getName() + "(";
                Check.same("the page tells " + call, true, table.contains(call));
            }
        }
    }

    private static void testRulesCompile(String page) {
        String table = page.substring(page.indexOf("| Rule |"), page.indexOf("A rule has 1 to 5 cells"));
        StringBuilder text = new StringBuilder("grid 5 5 5;");
        int rules = 0;
        for (String line : table.split("\n")) {
            String column = line.split("\\|")[1];
            for (String code : column.split(", ")) {
                if (code.contains("`")) {
                    text.append(code.replace("`", "").replace(" ..", "").trim()).append(';');
                    rules++;
                }
            }
        }
        Check.same("rules of the page", 14, rules);
        // rows and columns are five rules each.
        Check.same("rules of " + text, 22, Check.mill(text.toString()).count(3));
    }

    private static void testHowToRunTheTests(String page) {
        Check.same("how to run the tests", true, page.contains("\n    .ci/run\n"));
        Check.same("there is .ci/run", true, Files.exists(Path.of(".ci/run")));
        Check.same("the single test is there", true, Files.exists(Path.of("src/test/java/RuleTest.java")));
    }
}
