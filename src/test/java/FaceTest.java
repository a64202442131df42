import java.lang.reflect.Constructor;
import java.lang.reflect.Field;
import java.lang.reflect.Method;
import java.lang.reflect.Modifier;
import java.util.Arrays;
import java.util.Map;
import java.util.TreeMap;

/** The public face: the class, its constant, constructor and methods, and no other visible member. */
public final class FaceTest {
    private static final String INDEX = " throws IndexOutOfBoundsException";
    private static final String ARGUMENT = " throws IllegalArgumentException";
    private static final String BOTH = " throws IndexOutOfBoundsException IllegalArgumentException";

    private static final String[] FACE = {
        "int tool(long boolean)" + ARGUMENT,
        "int hole(int long long int int)" + BOTH,
        "int slot(int long long long long)" + BOTH,
        "int write(int int)" + INDEX,
        "boolean unit(int)",
        "int read()",
        "long at(int int)" + INDEX,
        "int order(int int)" + INDEX,
        "long travel(int)" + INDEX,
        "boolean proved(int)" + INDEX,
        "int file(int)" + ARGUMENT,
        "boolean byteOf(int int)" + BOTH,
        "int archive(int)" + INDEX,
        "boolean feed(int)",
        "int open()",
        "boolean agrees()",
        "int told(int)",
        "long sum(int)" + INDEX,
        "void clear()"
    };

    public static void main(String[] args) {
        Check.due("NONE", DrillArchive.NONE, -1);
        Check.due("the class", Modifier.toString(DrillArchive.class.getModifiers()), "public final");
        Constructor<?>[] made = DrillArchive.class.getDeclaredConstructors();
        Check.due("constructors", made.length, 1);
        Check.due("the constructor", made[0].toString(), "public DrillArchive()");
        methods();
        fields();
        for (Class<?> inner : DrillArchive.class.getDeclaredClasses()) {
            int seen = inner.getModifiers() & (Modifier.PUBLIC | Modifier.PROTECTED);
            Check.due("hidden: " + inner, seen, 0);
            Check.due("static: " + inner, Modifier.isStatic(inner.getModifiers()), true);
        }
        Check.end("FaceTest");
    }

    private static void methods() {
        Map<String, Boolean> due = new TreeMap<>();
        for (String line : FACE) {
            due.put(line, true);
        }
        for (Method method : DrillArchive.class.getDeclaredMethods()) {
            if (Modifier.isPrivate(method.getModifiers())) {
                for (String line : FACE) {
                    Check.due("a private " + method.getName(), line.contains(" " + method.getName() + "("), false);
                }
            } else {
                Check.due(told(method), due.remove(told(method)) != null, true);
                Check.due("public: " + method, Modifier.toString(method.getModifiers()), "public");
            }
        }
        Check.due("missing", due.keySet().toString(), "[]");
    }

    private static String told(Method method) {
        return method.getReturnType() + " " + method.getName() + "(" + names(method.getParameterTypes()) + ")"
                + (method.getExceptionTypes().length == 0 ? "" : " throws " + names(method.getExceptionTypes()));
    }

    private static String names(Class<?>[] types) {
        return String.join(" ", Arrays.stream(types).map(Class::getSimpleName).toList());
    }

    private static void fields() {
        for (Field field : DrillArchive.class.getDeclaredFields()) {
            String modifiers = Modifier.toString(field.getModifiers());
            if (field.getName().equals("NONE")) {
                Check.due("NONE", modifiers + " " + field.getType(), "public static final int");
            } else {
                Check.due("private: " + field, modifiers.startsWith("private"), true);
            }
        }
    }
}
