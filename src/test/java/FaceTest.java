import java.lang.reflect.Constructor;
import java.lang.reflect.Field;
import java.lang.reflect.Method;
import java.lang.reflect.Modifier;
import java.util.Set;
import java.util.TreeSet;

/** The class has the document's face and shows nothing else. */
public final class FaceTest {
    public static void main(String[] args) {
        Class<?> engine = TypedEngine.class;
        int kind = engine.getModifiers();
        Check.due("public and final", Modifier.isPublic(kind) && Modifier.isFinal(kind), true);
        Set<String> seen = new TreeSet<>();
        for (Method method : engine.getDeclaredMethods()) {
            if (!Modifier.isPrivate(method.getModifiers())) {
                seen.add(told(method));
            }
        }
        Set<String> want = Set.of("boolean draft(long,int)", "void clear()", "int load()", "boolean verified(int)",
            "int depth(int,int)", "int type(int,int,int)", "boolean start(int,int,int)", "int step(int)",
            "int state()", "int result()", "int look(int)", "int peek(int)", "int entered(int,int)");
        for (String method : want) {
            Check.due(method, seen.contains(method), true);
        }
        for (String method : seen) {
            Check.due("asked for: " + method, want.contains(method), true);
        }
        for (Field field : engine.getDeclaredFields()) {
            Check.due("private: " + field.getName(), Modifier.isPrivate(field.getModifiers()), true);
        }
        Constructor<?>[] constructors = engine.getDeclaredConstructors();
        Check.due("constructors", constructors.length, 1);
        Check.due("its parameters", constructors[0].getParameterCount(), 0);
        Check.due("it is public", Modifier.isPublic(constructors[0].getModifiers()), true);
        Check.finish("FaceTest");
    }

    private static String told(Method method) {
        StringBuilder text = new StringBuilder();
        text.append(Modifier.isPublic(method.getModifiers()) ? "" : "not public: ");
        text.append(Modifier.isStatic(method.getModifiers()) ? "static " : "");
        text.append(method.getReturnType().getSimpleName()).append(' ').append(method.getName()).append('(');
        for (Class<?> type : method.getParameterTypes()) {
            text.append(text.charAt(text.length() - 1) == '(' ? "" : ",").append(type.getSimpleName());
        }
        return text.append(')').toString();
    }
}
