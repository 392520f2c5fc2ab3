import java.lang.reflect.Constructor;
import java.lang.reflect.Executable;
import java.lang.reflect.Field;
import java.lang.reflect.Method;
import java.lang.reflect.Modifier;
import java.nio.charset.StandardCharsets;
import java.nio.file.Files;
import java.nio.file.Path;
import java.util.HashSet;
import java.util.Set;
import java.util.TreeSet;

/** The face of the document, no more and no less, and those rules of LANGUAGE.md that text shows. */
public final class FaceTest {
    private static final String STATE = " throws IllegalStateException";
    private static final String ARGUMENT = " throws IllegalArgumentException";

    public static void main(String[] args) throws Exception {
        Check check = new Check("FaceTest");
        methods(check);
        otherMembers(check);
        nestedClasses(check);
        sizes(check);
        source(check);
        check.finish();
    }

    private static void methods(Check check) {
        Set<String> due = new TreeSet<>(Set.of("boolean feed(int,long)", "int wipe()",
                "int formula()" + ARGUMENT,
                "int stream(boolean) throws IllegalStateException,IllegalArgumentException",
                "int record()" + ARGUMENT, "int fault()", "int clauses()", "int literal(int,int)",
                "int end()" + STATE, "int forward()" + STATE));
        due.addAll(Set.of("int refute()" + STATE, "boolean marked(int)", "int way(int)",
                "int tokens()", "int token(int)", "boolean alter(int,int)", "int judge()" + STATE));
        Set<String> found = new TreeSet<>();
        for (Method method : StreamRefuter.class.getDeclaredMethods()) {
            if (Modifier.isPublic(method.getModifiers())) {
                found.add(method.getReturnType() + " " + method.getName() + signature(method));
            }
        }
        check.same("the public methods", found, due);
        int flags = StreamRefuter.class.getModifiers();
        check.same("the class is public and final", Modifier.isPublic(flags)
                && Modifier.isFinal(flags), true);
        Constructor<?>[] made = StreamRefuter.class.getDeclaredConstructors();
        check.same("one constructor", made.length, 1);
        check.same("it is public and takes nothing", Modifier.isPublic(made[0].getModifiers())
                && made[0].getParameterCount() == 0, true);
    }

    private static String signature(Executable method) {
        return "(" + names(method.getParameterTypes()) + ")"
                + (method.getExceptionTypes().length == 0 ? ""
                        : " throws " + names(method.getExceptionTypes()));
    }

    private static String names(Class<?>[] types) {
        StringBuilder row = new StringBuilder();
        for (Class<?> type : types) {
            row.append(row.length() == 0 ? "" : ",").append(type.getSimpleName());
        }
        return row.toString();
    }

    private static void otherMembers(Check check) {
        Set<String> open = new TreeSet<>();
        Set<String> publicNames = new HashSet<>();
        for (Method method : StreamRefuter.class.getDeclaredMethods()) {
            if (Modifier.isPublic(method.getModifiers())) {
                publicNames.add(method.getName());
            }
        }
        for (Method method : StreamRefuter.class.getDeclaredMethods()) {
            int flags = method.getModifiers();
            if (!Modifier.isPublic(flags)) {
                check.same(method + " is private", Modifier.isPrivate(flags), true);
                check.same(method + " has its own name", publicNames.contains(method.getName()),
                        false);
            }
        }
        for (Field field : StreamRefuter.class.getDeclaredFields()) {
            if (!Modifier.isPrivate(field.getModifiers())) {
                open.add(Modifier.toString(field.getModifiers()) + " " + field.getName());
            }
        }
        check.same("the open fields", open, new TreeSet<>(Set.of("public static final NONE",
                "public static final FULL", "public static final DROP")));
    }

    private static void nestedClasses(Check check) {
        for (Class<?> inside : StreamRefuter.class.getDeclaredClasses()) {
            int flags = inside.getModifiers();
            check.same(inside + " is static", Modifier.isStatic(flags), true);
            check.same(inside + " is not open", Modifier.isPublic(flags)
                    || Modifier.isProtected(flags), false);
            for (Field field : inside.getDeclaredFields()) {
                check.same(field + " is no changing static", Modifier.isStatic(field.getModifiers())
                        && !Modifier.isFinal(field.getModifiers()), false);
            }
        }
    }

    /** Rule 11: parameters, classes, and fields beside the constants. */
    private static void sizes(Check check) {
        Class<?>[] inside = StreamRefuter.class.getDeclaredClasses();
        check.same("twelve classes at most", inside.length + 1 <= 12, true);
        sizesOf(check, StreamRefuter.class);
        for (Class<?> one : inside) {
            sizesOf(check, one);
        }
    }

    private static void sizesOf(Check check, Class<?> one) {
        int fields = 0;
        for (Field field : one.getDeclaredFields()) {
            fields += Modifier.isStatic(field.getModifiers()) ? 0 : 1;
        }
        check.same(one + " has twenty fields at most", fields <= 20, true);
        for (Method method : one.getDeclaredMethods()) {
            check.same(method + " has seven parameters at most", method.getParameterCount() <= 7,
                    true);
        }
    }

    private static void source(Check check) throws Exception {
        Path path = Path.of("src/main/java/StreamRefuter.java");
        String text = Files.readString(path, StandardCharsets.ISO_8859_1);
        check.same("characters up to 126", text.matches("[\\n\\x20-\\x7e]*+"), true);
        String code = text.replaceAll("(?s)/\\*.*?\\*/", "").replaceAll("//[^\\n]*", "");
        for (String word : new String[] {"package", "import", "finally", "synchronized", "assert",
            "double", "float", "null", "catch", "try"}) {
            check.same("no " + word, code.matches("(?s).*\\b" + word + "\\b.*"), false);
        }
        for (String sign : new String[] {"->", "::", "@"}) {
            check.same("no " + sign, code.contains(sign), false);
        }
    }
}
