import java.lang.reflect.Field;
import java.lang.reflect.Method;
import java.lang.reflect.Modifier;
import java.util.Set;
import java.util.TreeSet;

/** The public face, and the rules of LANGUAGE.md that the compiled class shows. */
public final class FaceTest {
    private static final Set<String> FACE = Set.of(
        "boolean pen(int)", "int line(int,int)", "int disc(int,int)", "int ring(int,int)", "int blot(int,int,int)",
        "int triangle(int,int,int)", "int flood(int)", "int get(int)", "int count()", "int row(int)", "int move(int,int)");
    private static final Set<Class<?>> TYPES = Set.of(
        int.class, long.class, short.class, byte.class, char.class, boolean.class,
        int[].class, long[].class, short[].class, byte[].class, char[].class, boolean[].class);

    public static void main(String[] args) {
        Check check = new Check("Face");
        check.sentence("public final class RasterRules", it -> type(it, RasterRules.class));
        check.sentence("The public face: the methods", it -> methods(it, RasterRules.class));
        check.sentence("public static final int BAD = -1", it -> fields(it, RasterRules.class));
        check.end();
    }

    private static void type(Check check, Class<?> type) {
        check.due("public final", Modifier.isPublic(type.getModifiers()) && Modifier.isFinal(type.getModifiers()), true);
        check.due("no package", type.getPackageName().isEmpty(), true);
        check.due("no nested class", type.getDeclaredClasses().length, 0);
        check.due("one constructor", type.getDeclaredConstructors().length, 1);
        check.due("public constructor", Modifier.isPublic(type.getDeclaredConstructors()[0].getModifiers()), true);
        check.due("constructor without parameters", type.getDeclaredConstructors()[0].getParameterCount(), 0);
    }

    private static void methods(Check check, Class<?> type) {
        Set<String> open = new TreeSet<>();
        Set<String> openNames = new TreeSet<>();
        for (Method method : type.getDeclaredMethods()) {
            if (!Modifier.isPrivate(method.getModifiers())) {
                open.add(shape(method));
                openNames.add(method.getName());
                check.due("public and of the object: " + shape(method), method.getModifiers(), Modifier.PUBLIC);
            }
        }
        check.due("the methods " + open, open.equals(FACE), true);
        for (Method method : type.getDeclaredMethods()) {
            if (Modifier.isPrivate(method.getModifiers())) {
                check.due("own name: " + shape(method), openNames.contains(method.getName()), false);
                check.due("seven parameters: " + shape(method), method.getParameterCount() <= 7, true);
            }
        }
    }

    private static String shape(Method method) {
        StringBuilder text = new StringBuilder(method.getReturnType() + " " + method.getName() + "(");
        for (Class<?> parameter : method.getParameterTypes()) {
            text.append(text.charAt(text.length() - 1) == '(' ? "" : ",").append(parameter);
        }
        return text + ")";
    }

    private static void fields(Check check, Class<?> type) {
        check.due("BAD", RasterRules.BAD, -1);
        for (Field field : type.getDeclaredFields()) {
            int modifiers = field.getModifiers();
            boolean bad = field.getName().equals("BAD");
            check.due("type of " + field.getName(), TYPES.contains(field.getType()), true);
            check.due("private " + field.getName(), Modifier.isPrivate(modifiers), !bad);
            if (bad) {
                check.due("public static final BAD", modifiers, Modifier.PUBLIC | Modifier.STATIC | Modifier.FINAL);
            }
            if (Modifier.isStatic(modifiers)) {
                check.due("constant " + field.getName(), Modifier.isFinal(modifiers), true);
                check.due("number " + field.getName(), field.getType() == int.class || field.getType() == long.class, true);
            }
        }
    }
}
