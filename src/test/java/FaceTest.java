import java.lang.reflect.Constructor;
import java.lang.reflect.Field;
import java.lang.reflect.Method;
import java.lang.reflect.Modifier;
import java.util.Set;
import java.util.TreeSet;

/** The public face of the document, and rules 1, 2, 5 and 10 of LANGUAGE.md as far as they are seen from outside. */
public final class FaceTest {
    private static final Set<String> FACE = Set.of(
        "int write(int, int, int, int)", "int read(int, int)", "int punch(int, int, int)",
        "int share(int, int, int, int)", "int pack(int)", "boolean back(int)", "int changes()", "int settle()",
        "int place(int, int)", "int uses(int)", "int extents(int)", "int free(int, int, int)", "int room(int, int)");

    public static void main(String[] args) {
        Class<?> type = ExtentVolume.class;
        Check.due("public final class", type.getModifiers(), Modifier.PUBLIC | Modifier.FINAL);
        Check.due("nested classes", type.getDeclaredClasses().length, 0);
        Check.due("NONE", ExtentVolume.NONE, -1);
        Check.due("FULL", ExtentVolume.FULL, -2);
        constructors(type);
        methods(type);
        fields(type);
        Check.end();
    }

    private static void constructors(Class<?> type) {
        Constructor<?>[] constructors = type.getDeclaredConstructors();
        Check.due("constructors", constructors.length, 1);
        Check.due("public constructor", Modifier.isPublic(constructors[0].getModifiers()), true);
        Check.due("the constructor's parameters", constructors[0].getParameterCount(), 0);
    }

    private static void methods(Class<?> type) {
        Set<String> face = new TreeSet<>();
        Set<String> publicNames = new TreeSet<>();
        for (Method method : type.getDeclaredMethods()) {
            if (Modifier.isPublic(method.getModifiers())) {
                face.add(signature(method));
                publicNames.add(method.getName());
            }
        }
        Check.due("the public methods " + face, face.equals(FACE), true);
        for (Method method : type.getDeclaredMethods()) {
            if (!Modifier.isPublic(method.getModifiers())) {
                String name = method.getName();
                Check.due(name + " is private", Modifier.isPrivate(method.getModifiers()), true);
                Check.due(name + " bears the name of a public one", publicNames.contains(name), false);
            }
            Check.due(method.getName() + " takes at most seven", method.getParameterCount() <= 7, true);
        }
    }

    private static String signature(Method method) {
        StringBuilder text = new StringBuilder(method.getReturnType() + " " + method.getName() + "(");
        for (Class<?> parameter : method.getParameterTypes()) {
            text.append(text.charAt(text.length() - 1) == '(' ? "" : ", ").append(parameter);
        }
        return text + ")";
    }

    private static void fields(Class<?> type) {
        Set<String> constants = Set.of("NONE", "FULL");
        for (Field field : type.getDeclaredFields()) {
            String name = field.getName();
            int modifiers = field.getModifiers();
            Class<?> held = field.getType();
            boolean isPublic = constants.contains(name);
            Check.due(name + " is public", Modifier.isPublic(modifiers), isPublic);
            Check.due(name + " is private", Modifier.isPrivate(modifiers), !isPublic);
            if (Modifier.isStatic(modifiers)) {
                Check.due(name + " is a constant int or long", isConstant(field), true);
            }
            Class<?> plain = held.isArray() ? held.getComponentType() : held;
            boolean isWhole = plain.isPrimitive() && plain != float.class && plain != double.class;
            Check.due(name + " is of whole numbers", isWhole, true);
        }
    }

    private static boolean isConstant(Field field) {
        boolean isNumber = field.getType() == int.class || field.getType() == long.class;
        return isNumber && Modifier.isFinal(field.getModifiers());
    }
}
