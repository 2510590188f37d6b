import java.io.IOException;
import java.lang.reflect.Method;
import java.lang.reflect.Modifier;
import java.net.URL;
import java.net.URLClassLoader;
import java.nio.file.Files;
import java.nio.file.Path;
import java.util.regex.Matcher;
import java.util.regex.Pattern;
import javax.tools.ToolProvider;

/** The examples of README.md as a program: each call answers what stands behind it, and no call of the face is left out. */
public final class ReadmeTest {
    private static final Pattern BLOCK = Pattern.compile("```java\n(.*?)```", Pattern.DOTALL);
    private static final Pattern CALL = Pattern.compile("([^/]+);\\s+// (throws )?([^: ]+)(: .*)?");
    private static int calls;

    public static void main(String[] args) throws Exception {
        String readme = Files.readString(Path.of("README.md"));
        StringBuilder helpers = new StringBuilder();
        StringBuilder steps = new StringBuilder();
        Matcher block = BLOCK.matcher(readme);
        while (block.find()) {
            if (block.group(1).startsWith("static ")) {
                helpers.append(block.group(1));
            } else {
                block.group(1).lines().forEach(line -> steps.append(step(line)).append('\n'));
            }
        }
        boolean wrong = missesCalls(helpers + steps.toString());
        wrong |= calls < 50;
        wrong |= !run("public class Example {\n" + helpers + "public static boolean answersAsDue() {\nboolean due = true;\n" + steps
            + "return due;\n}\n}\n");
        System.out.println(wrong ? "README.md does not hold" : "all " + calls + " answers of README.md are as due");
        if (wrong) {
            System.exit(1);
        }
    }

    private static String step(String line) {
        Matcher call = CALL.matcher(line);
        if (!call.matches()) {
            return line;
        }
        calls++;
        String told = "System.out.println(\"" + call.group(1).replace("\"", "\\\"") + " answered \" + got + \", README.md says "
            + call.group(3) + "\"); due = false;";
        String got = "got = String.valueOf(" + call.group(1) + ");";
        if (call.group(2) != null) {
            got = "try { " + got + " } catch (RuntimeException e) { got = e.getClass().getSimpleName(); }";
        }
        return "{ String got; " + got + " if (!got.equals(\"" + call.group(3) + "\")) { " + told + " } }";
    }

    private static boolean missesCalls(String code) {
        boolean misses = false;
        for (Method method : BitRopes.class.getDeclaredMethods()) {
            if (Modifier.isPublic(method.getModifiers()) && !code.contains("x." + method.getName() + "(")) {
                System.out.println("README.md has no example of " + method.getName() + "()");
                misses = true;
            }
        }
        return misses;
    }

    private static boolean run(String source) throws Exception {
        Path dir = Files.createTempDirectory("readme");
        Path file = dir.resolve("Example.java");
        Files.writeString(file, source);
        try {
            int compiled = ToolProvider.getSystemJavaCompiler().run(null, null, null, "-d", dir.toString(),
                "-cp", System.getProperty("java.class.path"), file.toString());
            if (compiled != 0) {
                return false;
            }
            try (URLClassLoader loader = new URLClassLoader(new URL[] {dir.toUri().toURL()})) {
                return (boolean) loader.loadClass("Example").getMethod("answersAsDue").invoke(null);
            }
        } finally {
            delete(dir);
        }
    }

    private static void delete(Path dir) throws IOException {
        try (var files = Files.list(dir)) {
            for (Path file : files.toList()) {
                Files.delete(file);
            }
        }
        Files.delete(dir);
    }
}
