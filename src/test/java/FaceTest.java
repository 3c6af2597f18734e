import java.io.IOException;
import java.lang.reflect.Constructor;
import java.lang.reflect.Field;
import java.lang.reflect.Method;
import java.lang.reflect.Modifier;
import java.nio.charset.StandardCharsets;
import java.nio.file.Files;
import java.nio.file.Path;
import java.util.Arrays;
import java.util.List;
import java.util.TreeSet;

/** The public face, and those rules of LANGUAGE.md that can be seen from outside or by plain search. */
public final class FaceTest {
    private static final Check CHECK = new Check("FaceTest");
    private static final List<String> FACE = List.of(
            "int feed(long,long,long)", "int edition(int)", "boolean take(int)", "int inForce(int)",
            "boolean fact(int,int)", "boolean world(int)", "boolean free(int,boolean)", "int make(int)",
            "int letter(int)", "int out(int)", "int part(int)", "int working(int,int)", "int judge(int,int)",
            "int changed(int,int,int,int)", "int look(int)", "int told(int,int)", "int count(int)");

    public static void main(String[] args) throws IOException {
        methods();
        fields();
        nestedClasses();
        source(Files.readString(Path.of("src/main/java/LetterDesk.java"), StandardCharsets.UTF_8));
        CHECK.finish();
    }

    private static String signature(Method method) {
        StringBuilder types = new StringBuilder();
        for (Class<?> type : method.getParameterTypes()) {
            types.append(types.length() == 0 ? "" : ",").append(type.getSimpleName());
        }
        return method.getReturnType().getSimpleName() + " " + method.getName() + "(" + types + ")";
    }

    private static void methods() {
        TreeSet<String> seen = new TreeSet<>();
        TreeSet<String> faceNames = new TreeSet<>();
        for (Method method : LetterDesk.class.getDeclaredMethods()) {
            if (Modifier.isPublic(method.getModifiers())) {
                seen.add(signature(method));
                faceNames.add(method.getName());
            } else {
                CHECK.same(method.getName() + " is private", Modifier.isPrivate(method.getModifiers()), true);
            }
        }
        CHECK.same("public methods", seen.toString(), new TreeSet<>(FACE).toString());
        for (Class<?> inner : LetterDesk.class.getDeclaredClasses()) {
            for (Method method : inner.getDeclaredMethods()) {
                CHECK.same(inner.getSimpleName() + "." + method.getName() + " has a name of the face",
                        faceNames.contains(method.getName()), false);
                CHECK.same(method.getName() + " has at most seven parameters", method.getParameterCount() <= 7, true);
            }
        }
        CHECK.same("constructors", LetterDesk.class.getDeclaredConstructors().length, 1);
        for (Constructor<?> constructor : LetterDesk.class.getDeclaredConstructors()) {
            CHECK.same("the constructor is public", Modifier.isPublic(constructor.getModifiers()), true);
            CHECK.same("the constructor's parameters", constructor.getParameterCount(), 0);
        }
        CHECK.same("the class is public and final",
                Modifier.isPublic(LetterDesk.class.getModifiers()) && Modifier.isFinal(LetterDesk.class.getModifiers()), true);
    }

    private static void fields() {
        for (Field field : LetterDesk.class.getDeclaredFields()) {
            boolean isNone = field.getName().equals("NONE");
            CHECK.same(field.getName() + " is private", Modifier.isPrivate(field.getModifiers()), !isNone);
            checkStatic(field);
        }
        for (Class<?> inner : LetterDesk.class.getDeclaredClasses()) {
            for (Field field : inner.getDeclaredFields()) {
                checkStatic(field);
            }
        }
    }

    private static void checkStatic(Field field) {
        if (Modifier.isStatic(field.getModifiers())) {
            CHECK.same(field.getName() + " is final", Modifier.isFinal(field.getModifiers()), true);
        }
    }

    private static void nestedClasses() {
        Class<?>[] inners = LetterDesk.class.getDeclaredClasses();
        CHECK.same("at most twelve classes", inners.length + 1 <= 12, true);
        for (Class<?> inner : inners) {
            int bits = inner.getModifiers();
            CHECK.same(inner.getSimpleName() + " is static", Modifier.isStatic(bits), true);
            CHECK.same(inner.getSimpleName() + " is hidden", Modifier.isPublic(bits) || Modifier.isProtected(bits), false);
            long own = Arrays.stream(inner.getDeclaredFields()).filter(f -> !Modifier.isStatic(f.getModifiers())).count();
            CHECK.same(inner.getSimpleName() + " has at most twenty fields", own <= 20, true);
        }
    }

    private static void source(String text) {
        for (String refused : new String[] {"->", "::", "synchronized", "finally", "assert ", "Exact(", "native ",
            "Exception | ", "catch (RuntimeException", "catch (Exception", "catch (Throwable", "NullPointer",
            "OutOfBounds", "ArithmeticException", "ClassCast", "System.", "\t"}) {
            CHECK.same("the source has " + refused, text.contains(refused), false);
        }
        for (String line : text.split("\n")) {
            if (line.startsWith("import ")) {
                CHECK.same(line, line.equals("import java.util.Arrays;")
                        || line.equals("import java.util.NoSuchElementException;"), true);
            }
            CHECK.same("a line of more than 120 signs: " + line, line.length() <= 120, true);
        }
        CHECK.same("the source has signs beyond 126", text.chars().anyMatch(sign -> sign > 126), false);
    }
}
