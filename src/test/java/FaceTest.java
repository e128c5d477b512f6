import java.lang.reflect.Constructor;
import java.lang.reflect.Field;
import java.lang.reflect.Method;
import java.lang.reflect.Modifier;
import java.util.Arrays;
import java.util.TreeSet;

/** The public face of the document, and no visible member beside it (rules 1 and 5 of LANGUAGE.md). */
public final class FaceTest {
    private static final String[] METHODS = {
        "boolean joint[int, int]", "boolean signal[int, boolean]", "boolean put[int, int]", "boolean turn[int, int]",
        "boolean set[int]", "boolean cancel[int]", "int tick[int]", "int routes[]", "int via[int, int]",
        "int position[int]", "int lock[int]", "int train[int]", "int blocked[int]", "boolean conflict[int, int]",
        "int largest[]", "int hops[int, int]",
    };

    public static void main(String[] args) {
        Check check = new Check("FaceTest");
        check.same("BAD", RouteInterlocking.BAD, -1);
        check.same("NONE", RouteInterlocking.NONE, -2);
        check.yes("the class is public and final",
            Modifier.isPublic(RouteInterlocking.class.getModifiers()) && Modifier.isFinal(RouteInterlocking.class.getModifiers()));
        check.same("nested classes", RouteInterlocking.class.getDeclaredClasses().length, 0);
        methods(check);
        fields(check);
        Constructor<?>[] made = RouteInterlocking.class.getDeclaredConstructors();
        check.yes("one public constructor without parameters",
            made.length == 1 && Modifier.isPublic(made[0].getModifiers()) && made[0].getParameterCount() == 0);
        check.end();
    }

    private static void methods(Check check) {
        TreeSet<String> seen = new TreeSet<>();
        TreeSet<String> names = new TreeSet<>();
        for (Method method : RouteInterlocking.class.getDeclaredMethods()) {
            if (Modifier.isPublic(method.getModifiers())) {
                names.add(method.getName());
            }
        }
        for (Method method : RouteInterlocking.class.getDeclaredMethods()) {
            if (Modifier.isPrivate(method.getModifiers())) {
                check.no("private method " + method.getName() + " bears a public name", names.contains(method.getName()));
                continue;
            }
            check.yes(method.getName() + " is public", Modifier.isPublic(method.getModifiers()));
            seen.add(method.getReturnType() + " " + method.getName() + Arrays.toString(method.getParameterTypes()));
        }
        check.yes("the methods are those of the document: " + seen, seen.equals(new TreeSet<>(Arrays.asList(METHODS))));
    }

    private static void fields(Check check) {
        TreeSet<String> visible = new TreeSet<>();
        for (Field field : RouteInterlocking.class.getDeclaredFields()) {
            int modifiers = field.getModifiers();
            if (!Modifier.isPrivate(modifiers)) {
                visible.add(field.getName());
            }
            if (Modifier.isStatic(modifiers)) {
                check.yes(field.getName() + " is a constant of int or long",
                    Modifier.isFinal(modifiers) && (field.getType() == int.class || field.getType() == long.class));
            }
        }
        check.yes("the visible fields are BAD and NONE: " + visible, visible.equals(new TreeSet<>(Arrays.asList("BAD", "NONE"))));
    }
}
