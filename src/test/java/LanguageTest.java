import java.io.IOException;
import java.lang.management.ManagementFactory;
import java.lang.reflect.Constructor;
import java.lang.reflect.Field;
import java.lang.reflect.Method;
import java.lang.reflect.Modifier;
import java.nio.file.Files;
import java.nio.file.Path;
import java.util.ArrayList;
import java.util.Arrays;
import java.util.List;

/** The document's face, and what of ../shared/LANGUAGE.md can be seen without reading. */
public final class LanguageTest {
    private static final Path SOURCE = Path.of("src/main/java/RiddleMill.java");
    private static final String[] FACE = {
        "int feed(int,int,int,int,int)", "int trim(int)", "int compile()", "int errorAt()", "int count(int)",
        "int rule(int,int)", "int drop(int)", "int write()", "int byteAt(int)", "int put(int,int)",
        "int value(int)", "int clear()", "int search(int)", "int solution(int,int)", "boolean isNeeded(int)",
        "int look()", "int possible(int)", "int hint(int)", "boolean step()", "int reason()",
        "int reasoned(int)", "int make(int)", "int change(int)", "double doubt()", "long digest()"};
    private static final String[] FORBIDDEN = {"import ", "package ", "catch", "finally", "synchronized",
        "assert", "->", "::", "Exact", "System.", "Object", "Class", "Thread", "yield", "var ", "transient",
        "volatile", "native", "static {"};

    private LanguageTest() {
    }

    public static void main(String[] args) throws IOException {
        testFace();
        testClassesInside();
        testSource();
        testCallsMakeNoObjects();
        Check.end();
    }

    private static void testFace() {
        int modifiers = RiddleMill.class.getModifiers();
        Check.same("the class is public and final", true,
                Modifier.isPublic(modifiers) && Modifier.isFinal(modifiers));
        List<String> due = new ArrayList<>(Arrays.asList(FACE));
        List<String> privateNames = new ArrayList<>();
        for (Method method : RiddleMill.class.getDeclaredMethods()) {
            if (Modifier.isPrivate(method.getModifiers())) {
                privateNames.add(method.getName());
                continue;
            }
            StringBuilder text = new StringBuilder(method.getReturnType() + " " + method.getName() + "(");
            for (Class<?> type : method.getParameterTypes()) {
                text.append(text.toString().endsWith("(") ? "" : ",").append(type.getName());
            }
            text.append(')');
            Check.same("a public method: " + method, true, Modifier.isPublic(method.getModifiers()));
            Check.same("a method of the face: " + text, true, due.remove(text.toString()));
        }
        Check.same("methods that lack: " + due, 0, due.size());
        for (String method : FACE) {
            String name = method.substring(method.indexOf(' ') + 1, method.indexOf('('));
            Check.same("a private method with a name of the face: " + name, false, privateNames.contains(name));
        }
        for (Field field : RiddleMill.class.getDeclaredFields()) {
            Check.same("a private field: " + field, true, Modifier.isPrivate(field.getModifiers()));
        }
        Constructor<?>[] constructors = RiddleMill.class.getDeclaredConstructors();
        Check.same("constructors", 1, constructors.length);
        Check.same("its parameters", 0, constructors[0].getParameterCount());
    }

    private static void testClassesInside() {
        Class<?>[] inside = RiddleMill.class.getDeclaredClasses();
        Check.same("classes", true, inside.length <= 11);
        for (Class<?> type : inside) {
            Check.same("a static class: " + type, true, Modifier.isStatic(type.getModifiers()));
            Check.same("no public class: " + type, false, Modifier.isPublic(type.getModifiers()));
            int fields = 0;
            for (Field field : type.getDeclaredFields()) {
                boolean isStatic = Modifier.isStatic(field.getModifiers());
                Check.same("a static field that is not final: " + field, false,
                        isStatic && !Modifier.isFinal(field.getModifiers()));
                fields += isStatic ? 0 : 1;
            }
            Check.same("fields of " + type, true, fields <= 20);
        }
    }

    private static void testSource() throws IOException {
        List<String> lines = Files.readAllLines(SOURCE);
        int methodLines = 0;
        for (int i = 0; i < lines.size(); i++) {
            String line = lines.get(i);
            String code = line.trim();
            String where = "line " + (i + 1) + ": " + code;
            for (int k = 0; k < line.length(); k++) {
                Check.same("a sign of " + where, true, line.charAt(k) >= 32 && line.charAt(k) < 127);
            }
            Check.same("length of " + where, true, line.length() <= 110);
            if (code.startsWith("//") || code.startsWith("*") || code.startsWith("/*")) {
                continue;
            }
            methodLines = code.isEmpty() ? 0 : methodLines + 1;
            Check.same("a short method up to " + where, true, methodLines <= 60);
            for (String word : FORBIDDEN) {
                Check.same("\"" + word + "\" in " + where, false, code.contains(word));
            }
            if (code.contains("new ")) {
                boolean isThrown = code.matches("throw new (IllegalState|IllegalArgument|IndexOutOfBounds)"
                        + "Exception\\(\"[a-z0-9 ]+\"\\);");
                boolean isField = code.matches("(private )?(final )?[A-Za-z\\[\\]]+ [a-zA-Z]+ = new .*;");
                boolean isInConstructor = code.equals("rules[i] = new Rule();");
                Check.same("an object in " + where, true, isThrown || isField || isInConstructor);
            }
        }
    }

    private static void testCallsMakeNoObjects() {
        if (!(ManagementFactory.getThreadMXBean() instanceof com.sun.management.ThreadMXBean threads)) {
            return;
        }
        RiddleMill mill = Check.mill("grid 5 5 5;rows;columns;");
        dearCalls(mill, 2);
        long before = threads.getCurrentThreadAllocatedBytes();
        dearCalls(mill, 50);
        long bytes = threads.getCurrentThreadAllocatedBytes() - before;
        Check.same("bytes made by calls: " + bytes, true, bytes < 10000);
    }

    private static void dearCalls(RiddleMill mill, int times) {
        for (int i = 0; i < times; i++) {
            mill.make(i);
            mill.search(30);
            mill.look();
            mill.reason();
            mill.step();
            mill.hint(0);
            mill.change(i % 2);
            mill.isNeeded(0);
            mill.write();
            mill.digest();
            mill.feed(1, 2, 3, 4, 5);
            mill.compile();
        }
    }
}
