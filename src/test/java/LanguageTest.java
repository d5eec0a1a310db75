import java.io.IOException;
import java.lang.reflect.Constructor;
import java.lang.reflect.Field;
import java.lang.reflect.Method;
import java.lang.reflect.Modifier;
import java.nio.file.Files;
import java.nio.file.Path;
import java.util.List;
import java.util.Set;
import java.util.TreeSet;
import java.util.regex.Matcher;
import java.util.regex.Pattern;

/** The document's face, and those rules of LANGUAGE.md that can be read off the program. */
final class LanguageTest {
    private static final Set<String> FACE = Set.of(
        "int setRing(int)", "int addRod(int, int, int)", "int removeRod(int)", "int setSpeed(int, int)",
        "int reverse()", "int pass(int)", "int type(char)", "int clearText()", "int perform()",
        "int undo()", "int keep()", "int restore()", "int rod(int, int)", "int cover(int)",
        "int placeIn(int, int)", "int speedIn(int, int)", "int meetings(int, int)", "int moments(int)",
        "int next(int)", "int count(int)");
    private static final Set<String> CONSTANTS =
        Set.of("UNKNOWN", "BAD_VALUE", "FULL", "NOT_POSSIBLE", "NONE");
    private static final String FORBIDDEN =
        "\\b(throw|throws|try|catch|finally|synchronized|assert|import|package|native|volatile|transient"
            + "|System|Object|hashCode|toString|equals|Thread|Random|while|do)\\b|->|::|@";
    private static final int LONGEST_METHOD = 60;

    private static int wrong = 0;

    public static void main(String[] args) throws IOException {
        theFace();
        theWords();
        theMethodsAreShort();
        System.out.println(wrong == 0 ? "the program keeps to the rules" : wrong + " faults");
        if (wrong != 0) {
            System.exit(1);
        }
    }

    private static void must(boolean holds, String what) {
        if (!holds) {
            wrong++;
            System.out.println("not so: " + what);
        }
    }

    private static void theFace() {
        Set<String> methods = new TreeSet<>();
        Set<String> names = new TreeSet<>();
        for (Method method : RingRods.class.getDeclaredMethods()) {
            if (Modifier.isPublic(method.getModifiers())) {
                StringBuilder parameters = new StringBuilder();
                for (Class<?> type : method.getParameterTypes()) {
                    parameters.append(parameters.length() == 0 ? "" : ", ").append(type.getName());
                }
                methods.add(method.getReturnType().getName() + " " + method.getName() + "(" + parameters + ")");
                must(!Modifier.isStatic(method.getModifiers()), method.getName() + " is not static");
                names.add(method.getName());
            }
        }
        must(methods.equals(new TreeSet<>(FACE)), "the public methods are those of the document");
        for (Method method : RingRods.class.getDeclaredMethods()) {
            if (!Modifier.isPublic(method.getModifiers())) {
                must(Modifier.isPrivate(method.getModifiers()), method.getName() + " is private");
                must(!names.contains(method.getName()), method.getName() + " bears no public one's name");
            }
        }
        Set<String> constants = new TreeSet<>();
        for (Field field : RingRods.class.getDeclaredFields()) {
            int modifiers = field.getModifiers();
            if (Modifier.isPublic(modifiers)) {
                must(Modifier.isStatic(modifiers) && Modifier.isFinal(modifiers), field.getName() + " is constant");
                constants.add(field.getName());
            } else {
                must(Modifier.isPrivate(modifiers), field.getName() + " is private");
            }
            must(!Modifier.isStatic(modifiers) || Modifier.isFinal(modifiers), field.getName() + " is final");
        }
        must(constants.equals(new TreeSet<>(CONSTANTS)), "the constants are those of the document");
        Constructor<?>[] constructors = RingRods.class.getDeclaredConstructors();
        must(constructors.length == 1 && constructors[0].getParameterCount() == 0, "one constructor");
        must(Modifier.isPublic(constructors[0].getModifiers()), "the constructor is public");
        int own = RingRods.class.getModifiers();
        must(Modifier.isPublic(own) && Modifier.isFinal(own), "the class is public and final");
        for (Class<?> inside : RingRods.class.getDeclaredClasses()) {
            must(Modifier.isPrivate(inside.getModifiers()) && Modifier.isStatic(inside.getModifiers()),
                inside.getName() + " is private and static");
        }
    }

    private static List<String> program() throws IOException {
        return Files.readAllLines(Path.of("src/main/java/RingRods.java"));
    }

    private static String withoutComments(String line) {
        String code = line.strip();
        return code.startsWith("*") || code.startsWith("/*") ? "" : code.replaceAll("//.*", "");
    }

    private static void theWords() throws IOException {
        Pattern forbidden = Pattern.compile(FORBIDDEN);
        Pattern made = Pattern.compile("\\bnew\\b");
        String method = "";
        int number = 0;
        for (String line : program()) {
            number++;
            String code = withoutComments(line);
            Matcher found = forbidden.matcher(code);
            must(!found.find(), "line " + number + " holds no forbidden word: " + code);
            if (line.matches("( {4}| {8})\\S.*\\) \\{") && !code.startsWith("for") && !code.startsWith("if")) {
                method = code;
            }
            // rows are made with the object and used again: no call makes any
            must(!made.matcher(code).find() || method.matches("(public )?[A-Z][A-Za-z]*\\(\\) \\{"),
                "line " + number + " makes something outside a constructor: " + code);
            must(code.chars().allMatch(sign -> sign >= 32 && sign < 127), "line " + number + " is plain");
        }
    }

    private static void theMethodsAreShort() throws IOException {
        Pattern first = Pattern.compile("( {4}| {8})[a-zA-Z].*\\) \\{");
        int begin = 0;
        String last = "";
        int number = 0;
        int methods = 0;
        for (String line : program()) {
            number++;
            Matcher matcher = first.matcher(line);
            if (begin == 0 && matcher.matches()) {
                begin = number;
                last = matcher.group(1) + "}";
                methods++;
            } else if (begin > 0 && line.equals(last)) {
                must(number - begin < LONGEST_METHOD, "the method at line " + begin + " is short");
                begin = 0;
            }
        }
        must(begin == 0 && methods > FACE.size(), "each method was seen");
    }
}
