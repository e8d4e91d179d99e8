import java.io.IOException;
import java.lang.reflect.Field;
import java.lang.reflect.Method;
import java.lang.reflect.Modifier;
import java.nio.file.Files;
import java.nio.file.Path;
import java.util.ArrayList;
import java.util.HashSet;
import java.util.List;
import java.util.Set;
import java.util.regex.Matcher;
import java.util.regex.Pattern;

/** The rules of LANGUAGE.md that can be seen from the file's words, or from the class as it was compiled. */
public final class LanguageTest {
    private static final Path FILE = Path.of("src", "main", "java", "TypedEngine.java");
    private static final Pattern HEAD = Pattern.compile("^( {4}| {8})(?! )[^=;]*?(\\w+)\\([^()]*\\) \\{$");
    private static final String[] NOT_THERE = {"package", "import", "try", "catch", "finally", "throw", "throws",
        "synchronized", "assert", "native", "volatile", "transient", "hashCode", "toString", "getClass", "System",
        "Object", "Thread", "Random", "var", "strictfp", "double", "float"};

    public static void main(String[] args) throws IOException {
        List<String> lines = withoutComments(Files.readString(FILE));
        words(lines);
        methods(lines);
        List<Class<?>> classes = new ArrayList<>(List.of(TypedEngine.class.getDeclaredClasses()));
        for (Class<?> inside : classes) {
            Check.due("rule 1, static: " + inside.getSimpleName(), Modifier.isStatic(inside.getModifiers()), true);
            Check.due("rule 1, not public: " + inside.getSimpleName(), Modifier.isPublic(inside.getModifiers()), false);
        }
        classes.add(TypedEngine.class);
        Check.due("rule 11: at most some twelve classes, " + classes.size(), classes.size() <= 12, true);
        names(classes);
        for (Class<?> one : classes) {
            fields(one);
        }
        Check.finish("LanguageTest");
    }

    private static List<String> withoutComments(String text) {
        String plain = text.replaceAll("(?s)/\\*.*?\\*/", "").replaceAll("//[^\n]*", "");
        return List.of(plain.split("\n"));
    }

    private static void words(List<String> lines) {
        for (String line : lines) {
            for (String word : NOT_THERE) {
                Check.due("not there, " + word + ": " + line, Pattern.compile("\\b" + word + "\\b").matcher(line).find(),
                    false);
            }
            Check.due("rule 2, no lambda and no method reference: " + line, line.contains("->") || line.contains("::"),
                false);
            boolean isLibrary = line.contains("Math.") && !line.contains("Math.min(");
            Check.due("rule 4, of the library Math.min alone: " + line, isLibrary, false);
        }
    }

    /** Methods are short, and what the README says: only constructors make something. */
    private static void methods(List<String> lines) {
        int count = 0;
        for (int i = 0; i < lines.size(); i++) {
            Matcher head = HEAD.matcher(lines.get(i));
            if (!head.find()) {
                continue;
            }
            count++;
            String end = head.group(1) + "}";
            boolean isConstructor = Character.isUpperCase(head.group(2).charAt(0));
            int last = i + 1;
            while (!lines.get(last).equals(end)) {
                Check.due("made by " + head.group(2) + ": " + lines.get(last),
                    lines.get(last).contains("new ") && !isConstructor, false);
                last++;
            }
            Check.due("rule 11: at most some sixty lines, " + head.group(2), last - i + 1 <= 60, true);
            i = last;
        }
        Check.due("the methods were found", count > 100, true);
    }

    private static void names(List<Class<?>> classes) {
        Set<String> face = new HashSet<>();
        for (Method method : TypedEngine.class.getDeclaredMethods()) {
            if (Modifier.isPublic(method.getModifiers())) {
                face.add(method.getName());
            }
        }
        for (Class<?> one : classes) {
            for (Method method : one.getDeclaredMethods()) {
                String name = one.getSimpleName() + "." + method.getName();
                boolean isFace = one == TypedEngine.class && Modifier.isPublic(method.getModifiers());
                Check.due("rule 1, no name of the face: " + name, !isFace && face.contains(method.getName()), false);
                Check.due("rule 11, at most seven parameters: " + name, method.getParameterCount() <= 7, true);
            }
        }
    }

    private static void fields(Class<?> one) {
        int count = 0;
        for (Field field : one.getDeclaredFields()) {
            String name = one.getSimpleName() + "." + field.getName();
            if (Modifier.isStatic(field.getModifiers())) {
                Check.due("rule 5, final: " + name, Modifier.isFinal(field.getModifiers()), true);
                Check.due("rule 5, a number: " + name, field.getType() == int.class, true);
            } else {
                count++;
                Class<?> type = field.getType();
                while (type.isArray()) {
                    type = type.getComponentType();
                }
                boolean isOwn = type.getEnclosingClass() == TypedEngine.class;
                Check.due("rule 3, of a type that may be: " + name, type.isPrimitive() || isOwn, true);
            }
        }
        Check.due("rule 11: at most some twenty fields, " + one.getSimpleName(), count <= 20, true);
    }
}
