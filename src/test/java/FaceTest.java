import java.lang.reflect.Constructor;
import java.lang.reflect.Field;
import java.lang.reflect.Method;
import java.lang.reflect.Modifier;
import java.util.Arrays;
import java.util.HashSet;
import java.util.Set;
import java.util.TreeSet;

/** The class shows the public face of the document and nothing else. */
public final class FaceTest {
    private static final Set<String> METHODS = new TreeSet<>(Arrays.asList(
            "constant/2", "reference/3", "patch/3", "insert/3", "delete/2", "unload/1", "define/3",
            "undefine/2", "size/0", "value/1", "address/1", "where/1", "undefined/0", "idle/0",
            "uses/1", "users/1", "moduleOf/1", "digest/0"));
    private static final Set<String> CONSTANTS = new TreeSet<>(Arrays.asList("BAD_ARG", "FULL", "NONE"));

    private static int wrong = 0;

    private static void check(boolean holds, String what) {
        if (!holds) {
            wrong++;
            System.out.println("does not hold: " + what);
        }
    }

    public static void main(String[] args) {
        Class<?> face = IncrementalLinker.class;
        check(Modifier.isPublic(face.getModifiers()) && Modifier.isFinal(face.getModifiers()), "public final class");
        check(face.getDeclaredClasses().length == 0, "no nested class");
        checkConstructors(face);
        checkMethods(face);
        checkFields(face);
        System.out.println(wrong == 0 ? "the face is as due" : wrong + " things are not as due");
        if (wrong != 0) {
            System.exit(1);
        }
    }

    private static void checkConstructors(Class<?> face) {
        Constructor<?>[] all = face.getDeclaredConstructors();
        check(all.length == 1, "one constructor");
        check(all[0].getParameterCount() == 0, "a constructor without parameters");
        check(Modifier.isPublic(all[0].getModifiers()), "a public constructor");
    }

    private static void checkMethods(Class<?> face) {
        Set<String> seen = new TreeSet<>();
        Set<String> publicNames = new HashSet<>();
        for (Method method : face.getDeclaredMethods()) {
            if (Modifier.isPrivate(method.getModifiers())) {
                continue;
            }
            check(Modifier.isPublic(method.getModifiers()), method + " is public or private");
            check(!Modifier.isStatic(method.getModifiers()), method + " is not static");
            check(method.getReturnType() == int.class, method + " answers an int");
            for (Class<?> type : method.getParameterTypes()) {
                check(type == int.class, method + " takes ints");
            }
            seen.add(method.getName() + "/" + method.getParameterCount());
            publicNames.add(method.getName());
        }
        check(seen.equals(METHODS), "the methods of the document, but seen: " + seen);
        for (Method method : face.getDeclaredMethods()) {
            boolean shadows = Modifier.isPrivate(method.getModifiers()) && publicNames.contains(method.getName());
            check(!shadows, method + " does not bear a public method's name");
        }
    }

    private static void checkFields(Class<?> face) {
        Set<String> seen = new TreeSet<>();
        for (Field field : face.getDeclaredFields()) {
            int modifiers = field.getModifiers();
            if (Modifier.isStatic(modifiers)) {
                check(Modifier.isFinal(modifiers) && field.getType().isPrimitive(), field + " is a constant");
            }
            if (!Modifier.isPrivate(modifiers)) {
                check(Modifier.isPublic(modifiers) && Modifier.isStatic(modifiers), field + " is a public constant");
                check(field.getType() == int.class, field + " is an int");
                seen.add(field.getName());
            }
        }
        check(seen.equals(CONSTANTS), "the constants of the document, but seen: " + seen);
    }
}
