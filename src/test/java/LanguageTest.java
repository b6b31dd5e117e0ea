import java.io.IOException;
import java.lang.reflect.Constructor;
import java.lang.reflect.Field;
import java.lang.reflect.Method;
import java.lang.reflect.Modifier;
import java.nio.file.Files;
import java.nio.file.Path;
import java.util.Arrays;
import java.util.Set;
import java.util.TreeSet;
import java.util.regex.Matcher;
import java.util.regex.Pattern;

/** The rules of LANGUAGE.md that can be seen from the source or from the compiled class, and the face of the document. */
public final class LanguageTest {
    private static final Path SOURCE = Path.of("src/main/java/ReceiptRolls.java");
    private static final Path DOCUMENT = Path.of("../shared/DOC.md");
    private static int wrong = 0;

    private LanguageTest() {
    }

    public static void main(String[] args) throws IOException {
        String source = Files.readString(SOURCE);
        face(Files.readString(DOCUMENT));
        hidden();
        sizes(source);
        words(bare(source));
        System.out.println(wrong == 0 ? "the rules are kept" : wrong + " rules are broken");
        if (wrong != 0) {
            System.exit(1);
        }
    }

    private static void check(boolean kept, String rule) {
        if (!kept) {
            wrong++;
            System.out.println(rule);
        }
    }

    /** Rule 1: what is public is the face of the document, and nothing else is. */
    private static void face(String document) {
        Set<String> due = new TreeSet<>();
        Matcher method = Pattern.compile("public int (\\w+)\\(([^)]*)\\);").matcher(document);
        while (method.find()) {
            due.add(method.group(1) + "(" + method.group(2).replaceAll(" \\w+(,|$)", "$1") + ")");
        }
        Set<String> got = new TreeSet<>();
        for (Method m : ReceiptRolls.class.getDeclaredMethods()) {
            if (!Modifier.isPrivate(m.getModifiers())) {
                got.add(m.getName() + Arrays.toString(m.getParameterTypes()).replace('[', '(').replace(']', ')'));
                check(Modifier.isPublic(m.getModifiers()) && m.getReturnType() == int.class, "rule 1: " + m);
            }
        }
        check(due.size() == 27 && due.equals(got), "rule 1: due are " + due + ", there are " + got);
        check(Modifier.isFinal(ReceiptRolls.class.getModifiers()), "rule 1: the class is not final");
        Constructor<?>[] constructors = ReceiptRolls.class.getDeclaredConstructors();
        check(constructors.length == 1 && Modifier.isPublic(constructors[0].getModifiers())
            && constructors[0].getParameterCount() == 0, "rule 1: the constructor");
        int constants = 0;
        for (Field f : ReceiptRolls.class.getDeclaredFields()) {
            if (!Modifier.isPrivate(f.getModifiers())) {
                constants++;
                check(document.contains(f.getName() + " = "), "rule 1: " + f);
            }
        }
        check(constants == 9, "rule 1: there are " + constants + " constants");
    }

    /** Rules 1, 2, 5 and 11: names, static fields, classes and their sizes. */
    private static void hidden() {
        Set<String> names = new TreeSet<>();
        for (Method m : ReceiptRolls.class.getMethods()) {
            if (m.getDeclaringClass() == ReceiptRolls.class) {
                names.add(m.getName());
            }
        }
        Class<?>[] inside = ReceiptRolls.class.getDeclaredClasses();
        check(inside.length < 12, "rule 11: too many classes");
        for (Class<?> c : inside) {
            check(Modifier.isStatic(c.getModifiers()) && !Modifier.isPublic(c.getModifiers())
                && !Modifier.isProtected(c.getModifiers()), "rules 1 and 2: " + c);
        }
        Class<?>[] all = Arrays.copyOf(inside, inside.length + 1);
        all[inside.length] = ReceiptRolls.class;
        for (Class<?> c : all) {
            int fields = 0;
            for (Field f : c.getDeclaredFields()) {
                boolean isStatic = Modifier.isStatic(f.getModifiers());
                fields += isStatic ? 0 : 1;
                check(!isStatic || Modifier.isFinal(f.getModifiers()), "rule 5: " + f);
            }
            check(fields <= 20, "rule 11: too many fields in " + c);
            for (Method m : c.getDeclaredMethods()) {
                check(m.getParameterCount() <= 7, "rule 11: " + m);
                check(Modifier.isPublic(m.getModifiers()) || !names.contains(m.getName()), "rule 1: " + m);
            }
        }
    }

    /** Rules 4 and 11: the signs of the file, and the lengths of methods. */
    private static void sizes(String source) {
        for (int i = 0; i < source.length(); i++) {
            check(source.charAt(i) > 0 && source.charAt(i) < 128, "rule 4: a sign above 127");
        }
        String[] lines = source.split("\n");
        for (int i = 0; i < lines.length; i++) {
            Matcher opens = Pattern.compile("^( +)[^ /*}].*\\) \\{$").matcher(lines[i]);
            if (opens.find()) {
                int end = i;
                while (!lines[end].startsWith(opens.group(1) + "}")) {
                    end++;
                }
                check(end - i < 60, "rule 11: a long method at line " + (i + 1));
            }
        }
    }

    /** The source without comments and without what stands in texts. */
    private static String bare(String source) {
        return source.replaceAll("(?s)/\\*.*?\\*/", "").replaceAll("//[^\n]*", "")
            .replaceAll("\"[^\"\n]*\"", "\"\"").replaceAll("'[^'\n]*'", "' '");
    }

    /** Rules 2, 4, 6 and 13: words that the language does not have. */
    private static void words(String bare) {
        Matcher banned = Pattern.compile("\\b(throws?|try|catch|finally|synchronized|assert|package|native|volatile|yield"
            + "|protected|abstract|Object|System\\.(?!arraycopy)\\w+|Random|Thread|Runtime|hashCode|\\w+Exact)\\b|->|::|@").matcher(bare);
        while (banned.find()) {
            check(false, "rules 2, 4, 6 and 13: " + banned.group());
        }
        Matcher imported = Pattern.compile("import ([^;]+);").matcher(bare);
        while (imported.find()) {
            check(imported.group(1).matches("java\\.util\\.(ArrayList|List|Iterator|Arrays)"), "rule 4: " + imported.group(1));
        }
        check(!Pattern.compile("\"\" *\\+|\\+ *\"\"").matcher(bare).find(), "rule 10: texts joined by +");
        Matcher called = Pattern.compile("\\bMath\\.(\\w+)").matcher(bare);
        while (called.find()) {
            check(called.group(1).matches("max|min|abs|floorDiv|floorMod"), "rule 4: " + called.group());
        }
    }
}
