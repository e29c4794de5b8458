import java.lang.reflect.Field;
import java.lang.reflect.Member;
import java.lang.reflect.Method;
import java.lang.reflect.Modifier;
import java.nio.file.Files;
import java.nio.file.Path;
import java.util.Arrays;
import java.util.List;
import java.util.TreeSet;
import java.util.regex.Matcher;
import java.util.regex.Pattern;

/** The document's face, no more and no less, and the words that ../shared/LANGUAGE.md keeps out of the source. */
public final class FaceTest {
    private static final List<String> METHODS = List.of("int machine(int, int)", "int work(int, int, int, int, int)",
        "int move(int, int)", "int price(int)", "int about(int, int)", "int free(int, int)", "int fewest()",
        "int plan(int, int, int, int)", "int planAt(int)", "int tries()", "int cost()", "int order()", "int orderAt(int)",
        "int third()", "int byStop()", "int step(boolean)", "int tick(int)", "int wait(int)", "int count(int)",
        "long digest()");
    private static final List<String> CONSTANTS = List.of("NONE", "BAD", "NO", "FULL", "SPENT");

    private static boolean failed = false;

    public static void main(String[] args) throws Exception {
        TreeSet<String> methods = new TreeSet<>();
        for (Method method : MachineMover.class.getDeclaredMethods()) {
            if (isFace(method)) {
                methods.add(told(method));
            }
        }
        expect("methods", methods, new TreeSet<>(METHODS));
        TreeSet<String> constants = new TreeSet<>();
        for (Field field : MachineMover.class.getDeclaredFields()) {
            if (isFace(field)) {
                constants.add(field.getName());
            }
        }
        expect("constants", constants, new TreeSet<>(CONSTANTS));
        expect("constructors", MachineMover.class.getConstructors().length, 1);
        expect("final", Modifier.isFinal(MachineMover.class.getModifiers()), true);
        expect("classes inside, at most twelve", MachineMover.class.getDeclaredClasses().length <= 12, true);
        shape(MachineMover.class);
        for (Class<?> inside : MachineMover.class.getDeclaredClasses()) {
            int modifiers = inside.getModifiers();
            expect(inside + " is static", Modifier.isStatic(modifiers), true);
            expect(inside + " is hidden", Modifier.isPublic(modifiers) || Modifier.isProtected(modifiers), false);
            expect(inside + " has no classes inside", inside.getDeclaredClasses().length, 0);
            shape(inside);
        }
        source();
        System.out.println(failed ? "the face or the source is not as told" : "the face and the source are as told");
        if (failed) {
            System.exit(1);
        }
    }

    private static boolean isFace(Member member) {
        return !Modifier.isPrivate(member.getModifiers()) && !member.isSynthetic();
    }

    private static String told(Method method) {
        String parameters = Arrays.stream(method.getParameterTypes()).map(Class::getName).reduce((a, b) -> a + ", " + b)
            .orElse("");
        return method.getReturnType().getName() + " " + method.getName() + "(" + parameters + ")";
    }

    /** What ../shared/LANGUAGE.md says of a class's fields and methods, as far as it can be seen from outside. */
    private static void shape(Class<?> type) {
        int fields = 0;
        for (Field field : type.getDeclaredFields()) {
            boolean fixed = Modifier.isStatic(field.getModifiers());
            fields += fixed ? 0 : 1;
            expect(field + ", if static, is final", fixed && !Modifier.isFinal(field.getModifiers()), false);
        }
        expect(type + " has twenty fields at most", fields <= 20, true);
        for (Method method : type.getDeclaredMethods()) {
            expect(method + " has seven parameters at most", method.getParameterCount() <= 7, true);
            boolean bearsFaceName = METHODS.stream().anyMatch(told -> told.contains(" " + method.getName() + "("));
            expect(method + " bears no name of the face", bearsFaceName && !Modifier.isPublic(method.getModifiers()), false);
        }
    }

    private static void source() throws Exception {
        String text = Files.readString(Path.of("src/main/java/MachineMover.java"));
        String code = text.replaceAll("(?s)/\\*.*?\\*/", "").replaceAll("//[^\n]*", "");
        Matcher found = Pattern.compile(
            "\\b(package|import|throw|throws|try|catch|synchronized|assert|protected|native|float|double)\\b|->|::|Exact\\(")
            .matcher(code);
        while (found.find()) {
            failed = true;
            System.out.println("the source has " + found.group());
        }
    }

    private static void expect(String what, Object got, Object want) {
        if (!got.equals(want)) {
            failed = true;
            System.out.println(what + ": " + got + ", due is " + want);
        }
    }
}
