import java.lang.reflect.Constructor;
import java.lang.reflect.Field;
import java.lang.reflect.Method;
import java.lang.reflect.Modifier;
import java.nio.file.Files;
import java.nio.file.Path;
import java.util.ArrayList;
import java.util.List;
import java.util.Set;
import java.util.TreeSet;
import java.util.regex.Matcher;
import java.util.regex.Pattern;

/** Looks at the class from outside: its face, and the words that LANGUAGE.md leaves out. */
public final class FaceTest {
    private static final Set<String> FACE = Set.of("boolean put(int)", "void erase()", "int compile()",
            "int code(int)", "int begin(int)", "int run(int)", "int status()", "int cycles()", "int address()",
            "int depth(int)", "int live()", "int used()", "int collections()", "int printed()",
            "int character(int)");
    private static final List<String> WRONG = new ArrayList<>();

    public static void main(String[] args) throws Exception {
        if (!Modifier.isPublic(SecdProcessor.class.getModifiers())
                || !Modifier.isFinal(SecdProcessor.class.getModifiers())) {
            WRONG.add("the class is not public and final");
        }
        lookAtConstructors();
        lookAtMethods();
        lookAtFields();
        lookAtNestedClasses();
        lookAtSizes(SecdProcessor.class);
        for (Class<?> inside : SecdProcessor.class.getDeclaredClasses()) {
            lookAtSizes(inside);
        }
        String source = Files.readString(Path.of("src/main/java/SecdProcessor.java"));
        lookAtSource(source);
        lookAtMethodLengths(source);
        for (String wrong : WRONG) {
            System.out.println(wrong);
        }
        System.out.println(WRONG.isEmpty() ? "the face is as due" : "the face is not as due");
        if (!WRONG.isEmpty()) {
            System.exit(1);
        }
    }

    private static void lookAtConstructors() {
        Constructor<?>[] constructors = SecdProcessor.class.getDeclaredConstructors();
        if (constructors.length != 1 || !constructors[0].toString().equals("public SecdProcessor(int)")) {
            WRONG.add("the constructor is not the document's");
        }
    }

    private static void lookAtMethods() {
        Set<String> seen = new TreeSet<>();
        for (Method method : SecdProcessor.class.getDeclaredMethods()) {
            String whole = method.toString();
            if (Modifier.isPublic(method.getModifiers())) {
                seen.add(whole.replace("public ", "").replace("SecdProcessor.", ""));
            } else if (!Modifier.isPrivate(method.getModifiers()) && !method.isSynthetic()) {
                WRONG.add("neither public nor private: " + whole);
            }
        }
        if (!seen.equals(FACE)) {
            WRONG.add("the public methods are " + seen);
        }
    }

    private static void lookAtFields() {
        for (Field field : SecdProcessor.class.getDeclaredFields()) {
            if (!Modifier.isPrivate(field.getModifiers())) {
                WRONG.add("not private: " + field);
            }
        }
    }

    private static void lookAtNestedClasses() {
        Class<?>[] nested = SecdProcessor.class.getDeclaredClasses();
        if (nested.length > 12) {
            WRONG.add("classes inside: " + nested.length);
        }
        for (Class<?> inside : nested) {
            if (!Modifier.isStatic(inside.getModifiers())) {
                WRONG.add("not static: " + inside);
            }
            for (Field field : inside.getDeclaredFields()) {
                if (Modifier.isStatic(field.getModifiers()) && !Modifier.isFinal(field.getModifiers())) {
                    WRONG.add("static and not final: " + field);
                }
            }
            for (Method method : inside.getDeclaredMethods()) {
                if (FACE.stream().anyMatch(face -> face.contains(" " + method.getName() + "("))) {
                    WRONG.add("bears the name of a public method: " + method);
                }
            }
        }
    }

    /** Rules 5 and 11: what static fields are, how many fields a class and parameters a method has. */
    private static void lookAtSizes(Class<?> type) {
        Set<Class<?>> constants = Set.of(int.class, long.class, boolean.class, char.class, String.class,
                int[].class, long[].class, char[].class, byte[].class);
        int fields = 0;
        for (Field field : type.getDeclaredFields()) {
            if (!Modifier.isStatic(field.getModifiers())) {
                fields++;
            } else if (!Modifier.isFinal(field.getModifiers()) || !constants.contains(field.getType())) {
                WRONG.add("a static field that is no constant: " + field);
            }
        }
        if (fields > 20) {
            WRONG.add("more than 20 fields: " + type);
        }
        for (Method method : type.getDeclaredMethods()) {
            if (method.getParameterCount() > 7) {
                WRONG.add("more than seven parameters: " + method);
            }
        }
    }

    /** Rule 11: a method begins with a line that opens a brace behind its parameters, and ends with its like. */
    private static void lookAtMethodLengths(String source) {
        Matcher method = Pattern.compile("(?m)^( {4}| {8})(?! )[^\n;]*\\) \\{\n((?s:.*?))^\\1\\}\n").matcher(source);
        int methods = 0;
        while (method.find()) {
            methods++;
            if (method.group(2).lines().count() > 60) {
                WRONG.add("more than sixty lines: " + method.group().lines().findFirst().orElse("").trim());
            }
        }
        if (methods < FACE.size()) {
            WRONG.add("methods are not found in the source, but " + methods);
        }
    }

    private static void lookAtSource(String source) {
        String code = source.replaceAll("(?s)/\\*.*?\\*/", "").replaceAll("//[^\n]*", "");
        Matcher word = Pattern.compile("\\b(throw|throws|try|catch|synchronized|assert|import|package|hashCode|toString)\\b|->|::")
                .matcher(code);
        while (word.find()) {
            WRONG.add("LANGUAGE.md leaves out: " + word.group());
        }
    }
}
