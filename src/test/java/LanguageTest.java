import java.lang.reflect.Field;
import java.lang.reflect.Modifier;
import java.nio.file.Files;
import java.nio.file.Path;
import java.util.List;
import java.util.regex.Matcher;
import java.util.regex.Pattern;

/** Rules of LANGUAGE.md that can be seen from the text of the program. */
public final class LanguageTest {
    private static boolean wrong;

    public static void main(String[] args) throws Exception {
        List<String> lines = Files.readAllLines(Path.of("src/main/java/BitRopes.java"));
        StringBuilder code = new StringBuilder();
        for (String line : lines) {
            String bare = line.replaceAll("/\\*\\*.*?\\*/", "").replaceAll("//.*", "").replaceAll("\"[^\"]*\"", "\"\"");
            code.append(bare).append('\n');
        }
        refuse(code, "->|::", "rule 2: no lambda, no method reference");
        refuse(code, "\\b(Float|Double|double|float)\\b", "rule 3: this program reckons its fractions with whole numbers");
        refuse(code, "Exact\\b", "rule 4: no Exact");
        refuse(code, "import (?!java\\.util\\.NoSuchElementException;)", "rule 4: no other import");
        refuse(code, "\\b(finally|synchronized|assert|try|catch|transient|volatile)\\b", "rule 6");
        refuse(code, "\\b(hashCode|toString|ordinal|getMessage|System\\.(?!arraycopy))", "rules 4, 6");
        refuse(code, "\\bstatic (?!final|int|long|boolean|Word|class|void)", "rule 5");
        refuse(code, "static \\{", "rule 5: no static block");
        refuse(code, "while \\(true\\)|for \\(;;\\)", "rule 9: loops end");
        refuse(code, "\"\" \\+|\\+ \"\"", "rule 10: no joining by +");
        refuse(code, "\\((?:[a-zA-Z\\[\\]]+ [a-zA-Z]+, ){7,}", "rule 11: seven parameters at most");
        Matcher classes = Pattern.compile("\\b(class|enum|interface|record) [A-Z]").matcher(code);
        int many = 0;
        while (classes.find()) {
            many++;
        }
        tell(many > 12, "rule 11: " + many + " classes");
        methodsAreShort(lines);
        fieldsAreFew(BitRopes.class);
        for (Class<?> inside : BitRopes.class.getDeclaredClasses()) {
            fieldsAreFew(inside);
        }
        System.out.println(wrong ? "the language is not kept to" : "the language is kept to");
        if (wrong) {
            System.exit(1);
        }
    }

    private static void fieldsAreFew(Class<?> type) {
        int many = 0;
        for (Field field : type.getDeclaredFields()) {
            boolean fixed = Modifier.isStatic(field.getModifiers());
            many += fixed ? 0 : 1;
            tell(fixed && !Modifier.isFinal(field.getModifiers()), "rule 5: " + field);
            boolean plain = field.getType().isPrimitive() || field.getType() == String.class;
            tell(fixed && !plain && !type.isEnum(), "rule 5: " + field);
            tell(!fixed && !plain && type.isEnum(), "rule 2: " + field);
        }
        tell(many > 20, "rule 11: " + many + " fields in " + type);
    }

    private static void refuse(CharSequence code, String pattern, String rule) {
        Matcher m = Pattern.compile(pattern).matcher(code);
        if (m.find()) {
            tell(true, rule + ": " + m.group());
        }
    }

    private static void methodsAreShort(List<String> lines) {
        String head = null;
        int start = 0;
        for (int k = 0; k < lines.size(); k++) {
            String line = lines.get(k);
            tell(line.length() > 125, "line " + (k + 1) + " is too long");
            if (line.matches("( {4}| {8})[a-zA-Z].*\\) (throws \\w+ )?\\{")) {
                head = line;
                start = k;
            } else if (head != null && line.equals(head.replaceAll("\\S.*", "}"))) {
                tell(k - start > 60, "rule 11: a long method: " + head);
                head = null;
            }
        }
    }

    private static void tell(boolean bad, String what) {
        if (bad) {
            wrong = true;
            System.out.println(what);
        }
    }
}
