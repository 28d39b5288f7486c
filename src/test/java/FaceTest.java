import java.lang.reflect.Constructor;
import java.lang.reflect.Field;
import java.lang.reflect.Method;
import java.lang.reflect.Modifier;
import java.util.Arrays;
import java.util.Set;
import java.util.TreeSet;

/** The class shows what stands under "The public face" of the document, and nothing else. */
public final class FaceTest {
    private static final String[] FACE = {
        "int forbid(int)", "int permit(int)", "int pieces()", "int allowed(int, int)", "long count(int)",
        "int countWith(int, int)", "int rank(int, int)", "int word(int, int)", "int next(int, int)",
        "int beginning(int, int)", "int ending(int, int)", "int standing(int, int)", "int longest()",
        "int choices(int, int)", "int mirrored(int)",
    };

    private static int wrong = 0;

    private static void due(boolean holds, String what) {
        if (!holds) {
            wrong++;
            System.out.println("does not hold: " + what);
        }
    }

    private static String face(Method method) {
        String parameters = Arrays.toString(method.getParameterTypes());
        return method.getReturnType() + " " + method.getName()
                + "(" + parameters.substring(1, parameters.length() - 1) + ")";
    }

    public static void main(String[] args) {
        Class<?> type = FactorFreeWords.class;
        due(Modifier.isPublic(type.getModifiers()) && Modifier.isFinal(type.getModifiers()), "public and final");
        due(type.getSuperclass() == Object.class && type.getInterfaces().length == 0, "extends nothing");
        due(type.getDeclaredClasses().length == 0, "no nested class");

        Constructor<?>[] constructors = type.getDeclaredConstructors();
        due(constructors.length == 1 && constructors[0].getParameterCount() == 0
                && Modifier.isPublic(constructors[0].getModifiers()), "one public constructor without parameters");

        for (Field field : type.getDeclaredFields()) {
            due(Modifier.isPrivate(field.getModifiers()), "private: " + field);
        }

        Set<String> names = new TreeSet<>();
        Set<String> shown = new TreeSet<>();
        for (Method method : type.getDeclaredMethods()) {
            if (Modifier.isPublic(method.getModifiers())) {
                shown.add(face(method));
                names.add(method.getName());
                due(!Modifier.isStatic(method.getModifiers()), "not static: " + method);
            }
        }
        Set<String> want = new TreeSet<>(Arrays.asList(FACE));
        due(shown.equals(want), "public methods are " + want + " (they are " + shown + ")");
        for (Method method : type.getDeclaredMethods()) {
            if (!Modifier.isPublic(method.getModifiers())) {
                due(Modifier.isPrivate(method.getModifiers()), "private: " + method);
                due(!names.contains(method.getName()), "a name of its own: " + method);
            }
        }

        System.out.println(wrong == 0 ? "the face is as due" : wrong + " things are not as due");
        if (wrong != 0) {
            System.exit(1);
        }
    }
}
