import java.io.IOException;
import java.lang.reflect.Constructor;
import java.lang.reflect.Field;
import java.lang.reflect.InvocationTargetException;
import java.lang.reflect.Method;
import java.lang.reflect.Modifier;
import java.nio.file.Files;
import java.nio.file.Path;
import java.util.Arrays;
import java.util.Comparator;
import java.util.Random;
import java.util.Set;
import java.util.TreeSet;
import java.util.regex.Matcher;
import java.util.regex.Pattern;

/** The rules of LANGUAGE.md, as far as a program can see whether they are kept, and the face of the document. */
public final class LanguageTest {
    private static final Path SOURCE = Path.of("src/main/java/ReceiptRolls.java");
    private static final Path DOCUMENT = Path.of("../shared/DOC.md");
    private static int wrong = 0;

    private LanguageTest() {
    }

    public static void main(String[] args) throws IOException, ReflectiveOperationException {
        face(Files.readString(DOCUMENT));
        names();
        for (String rule : SourceRules.broken(SOURCE)) {
            check(false, rule);
        }
        check(Files.readString(SOURCE).chars().allMatch(sign -> sign < 128), "rule 4: a sign above 127");
        wildCalls();
        System.out.println(wrong == 0 ? "the rules are kept" : wrong + " rules are broken");
        if (wrong != 0) {
            System.exit(1);
        }
    }

    private static void check(boolean kept, String rule) {
        if (!kept) {
            wrong++;
            System.out.println(rule);
        }
    }

    /** Rule 1: what is public is the face of the document, and nothing else is. */
    private static void face(String document) {
        Set<String> due = new TreeSet<>();
        Matcher method = Pattern.compile("public int (\\w+)\\(([^)]*)\\);").matcher(document);
        while (method.find()) {
            due.add(method.group(1) + "(" + method.group(2).replaceAll(" \\w+(,|$)", "$1") + ")");
        }
        Set<String> got = new TreeSet<>();
        for (Method m : ReceiptRolls.class.getDeclaredMethods()) {
            if (!Modifier.isPrivate(m.getModifiers())) {
                got.add(m.getName() + Arrays.toString(m.getParameterTypes()).replace('[', '(').replace(']', ')'));
                check(Modifier.isPublic(m.getModifiers()) && m.getReturnType() == int.class, "rule 1: " + m);
            }
        }
        check(due.size() == 27 && due.equals(got), "rule 1: due are " + due + ", there are " + got);
        check(Modifier.isFinal(ReceiptRolls.class.getModifiers()), "rule 1: the class is not final");
        Constructor<?>[] constructors = ReceiptRolls.class.getDeclaredConstructors();
        check(constructors.length == 1 && Modifier.isPublic(constructors[0].getModifiers())
            && constructors[0].getParameterCount() == 0, "rule 1: the constructor");
        int constants = 0;
        for (Field f : ReceiptRolls.class.getDeclaredFields()) {
            if (!Modifier.isPrivate(f.getModifiers())) {
                constants++;
                check(document.contains(f.getName() + " = "), "rule 1: " + f);
            }
        }
        check(constants == 9, "rule 1: there are " + constants + " constants");
    }

    /** Rule 1: no private method bears the name of a public one. */
    private static void names() {
        Set<String> names = new TreeSet<>();
        for (Method m : ReceiptRolls.class.getMethods()) {
            if (m.getDeclaringClass() == ReceiptRolls.class) {
                names.add(m.getName());
            }
        }
        for (Class<?> c : ReceiptRolls.class.getDeclaredClasses()) {
            for (Method m : c.getDeclaredMethods()) {
                check(!names.contains(m.getName()), "rule 1: " + m);
            }
        }
        for (Method m : ReceiptRolls.class.getDeclaredMethods()) {
            check(Modifier.isPublic(m.getModifiers()) || !names.contains(m.getName()), "rule 1: " + m);
        }
    }

    /** An argument of any kind: small ones, the edges of the ranges of the document, and those of int and long. */
    private static Object argument(Class<?> type, Random random) {
        int[] edges = {-1, 0, 1, 16, 24, 31, 32, 63, 64, 80, 99, 100, 200, 9999, 10000, 65535, 1 << 30};
        long number = switch (random.nextInt(8)) {
            case 0 -> random.nextLong();
            case 1 -> edges[random.nextInt(edges.length)];
            case 2 -> random.nextBoolean() ? Integer.MIN_VALUE : Integer.MAX_VALUE;
            case 3 -> random.nextBoolean() ? Long.MIN_VALUE : Long.MAX_VALUE;
            default -> random.nextInt(4);
        };
        if (type == int.class) {
            return (int) number;
        }
        return random.nextInt(4) == 0 ? number : 'a' + random.nextInt(26);
    }

    /** Rules 7 and 13: no call throws, whatever it is given, and the same calls give the same answers. */
    private static void wildCalls() throws IllegalAccessException {
        Method[] methods = ReceiptRolls.class.getDeclaredMethods();
        Arrays.sort(methods, Comparator.comparing(Method::getName));
        for (int run = 0; run < 200; run++) {
            Random random = new Random(run);
            ReceiptRolls x = new ReceiptRolls();
            ReceiptRolls same = new ReceiptRolls();
            for (int call = 0; call < 2000; call++) {
                Method m = methods[random.nextInt(methods.length)];
                if (!Modifier.isPublic(m.getModifiers())) {
                    continue;
                }
                Object[] arguments = new Object[m.getParameterCount()];
                for (int i = 0; i < arguments.length; i++) {
                    arguments[i] = argument(m.getParameterTypes()[i], random);
                }
                try {
                    Object answer = m.invoke(x, arguments);
                    check(answer.equals(m.invoke(same, arguments)), "rule 13: " + m.getName() + Arrays.toString(arguments));
                } catch (InvocationTargetException e) {
                    check(false, "rule 7: " + m.getName() + Arrays.toString(arguments) + " throws " + e.getCause());
                }
            }
        }
    }
}
