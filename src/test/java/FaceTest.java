import java.lang.reflect.Constructor;
import java.lang.reflect.Field;
import java.lang.reflect.Method;
import java.lang.reflect.Modifier;
import java.nio.file.Files;
import java.nio.file.Path;
import java.util.Arrays;
import java.util.Set;
import java.util.TreeSet;
import java.util.stream.Collectors;

/** The face of the document, and nothing else that could be seen from outside. */
public final class FaceTest {
    public static void main(String[] args) throws Exception {
        Set<String> due = new TreeSet<>();
        for (String line : Files.readAllLines(Path.of("../shared/DOC.md"))) {
            if (line.startsWith("    public ") && line.endsWith(";") && line.contains("(") && !line.contains("BitRopes(")) {
                String head = line.substring(11, line.indexOf('('));
                String inside = line.substring(line.indexOf('(') + 1, line.indexOf(')'));
                String types = inside.isEmpty() ? "" : Arrays.stream(inside.split(", ")).map(p -> p.split(" ")[0])
                    .collect(Collectors.joining(","));
                due.add(head + "(" + types + ")");
            }
        }
        Set<String> got = new TreeSet<>();
        boolean wrong = false;
        for (Method method : BitRopes.class.getDeclaredMethods()) {
            if (Modifier.isPublic(method.getModifiers())) {
                String types = Arrays.stream(method.getParameterTypes()).map(Class::getName).collect(Collectors.joining(","));
                got.add(method.getReturnType().getName() + " " + method.getName() + "(" + types + ")");
            } else {
                wrong |= tell(!Modifier.isPrivate(method.getModifiers()), "visible: " + method);
            }
        }
        for (Field field : BitRopes.class.getDeclaredFields()) {
            boolean none = field.getName().equals("NONE");
            wrong |= tell(Modifier.isPrivate(field.getModifiers()) == none, "visible: " + field);
            wrong |= tell(Modifier.isStatic(field.getModifiers()) && !Modifier.isFinal(field.getModifiers()), "static: " + field);
        }
        for (Class<?> inside : BitRopes.class.getDeclaredClasses()) {
            wrong |= tell(!Modifier.isStatic(inside.getModifiers()), "not static: " + inside);
            wrong |= tell(Modifier.isPublic(inside.getModifiers()), "public: " + inside);
        }
        wrong |= hiddenNames(BitRopes.class, due);
        for (Class<?> inside : BitRopes.class.getDeclaredClasses()) {
            wrong |= hiddenNames(inside, due);
        }
        Constructor<?>[] made = BitRopes.class.getDeclaredConstructors();
        wrong |= tell(made.length != 1 || made[0].getParameterCount() != 0, "constructors");
        wrong |= tell(due.size() != 46, "the document's face was not read: " + due.size());
        wrong |= tell(!due.equals(got), "the face is " + got + ", due is " + due);
        int modifiers = BitRopes.class.getModifiers();
        wrong |= tell(!Modifier.isFinal(modifiers) || !Modifier.isPublic(modifiers), "public and final");
        System.out.println(wrong ? "the face is not as due" : "the face is as due");
        if (wrong) {
            System.exit(1);
        }
    }

    /** No private method bears the name of a public one. */
    private static boolean hiddenNames(Class<?> type, Set<String> due) {
        boolean wrong = false;
        for (Method method : type.getDeclaredMethods()) {
            boolean hidden = Modifier.isPrivate(method.getModifiers()) || type != BitRopes.class;
            boolean named = due.stream().anyMatch(head -> head.contains(" " + method.getName() + "("));
            wrong |= tell(hidden && named, "the name of a public one: " + method);
        }
        return wrong;
    }

    private static boolean tell(boolean wrong, String what) {
        if (wrong) {
            System.out.println(what);
        }
        return wrong;
    }
}
