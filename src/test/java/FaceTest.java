import java.lang.reflect.Constructor;
import java.lang.reflect.Field;
import java.lang.reflect.Method;
import java.lang.reflect.Modifier;
import java.util.Arrays;
import java.util.TreeSet;

/** The public face, by its names and parameters, and nothing beside it. */
public final class FaceTest {
    private static final String[] FACE = {
        "copy 3", "mint 4", "move 2", "delete 1", "revoke 1", "retype 3", "send 3", "call 2", "receive 2",
        "answer 1", "signal 1", "await 1", "pass 0", "priority 2", "current 0", "thread 2", "look 3", "count 1"};

    public static void main(String[] args) {
        Check check = new Check("face");
        check.is("OK", 0, CapKernel.OK);
        check.is("ABORTED", 1, CapKernel.ABORTED);
        int type = CapKernel.class.getModifiers();
        if (!Modifier.isPublic(type) || !Modifier.isFinal(type)) {
            check.tell("the class is not public and final");
        }
        looksAtMethods(check);
        looksAtExceptions(check);
        looksAtFields(check);
        for (Constructor<?> made : CapKernel.class.getDeclaredConstructors()) {
            if (!Modifier.isPublic(made.getModifiers()) || made.getParameterCount() != 0) {
                check.tell("another constructor: " + made);
            }
        }
        check.end();
    }

    private static void looksAtMethods(Check check) {
        TreeSet<String> found = new TreeSet<>();
        TreeSet<String> names = new TreeSet<>();
        for (Method method : CapKernel.class.getDeclaredMethods()) {
            if (Modifier.isPrivate(method.getModifiers())) {
                continue;
            }
            found.add(method.getName() + " " + method.getParameterCount());
            names.add(method.getName());
            if (!Modifier.isPublic(method.getModifiers()) || method.getReturnType() != int.class) {
                check.tell("not of the face: " + method);
            }
            for (Class<?> parameter : method.getParameterTypes()) {
                if (parameter != int.class) {
                    check.tell("a parameter that is no int: " + method);
                }
            }
        }
        if (!found.equals(new TreeSet<>(Arrays.asList(FACE)))) {
            check.tell("the methods are " + found);
        }
        for (Method method : CapKernel.class.getDeclaredMethods()) {
            if (Modifier.isPrivate(method.getModifiers()) && names.contains(method.getName())) {
                check.tell("a private method bears a public one's name: " + method);
            }
        }
    }

    private static void looksAtExceptions(Check check) {
        TreeSet<String> due = new TreeSet<>(Arrays.asList("IllegalArgumentException", "NoSuchElementException",
                "UnsupportedOperationException", "IllegalStateException"));
        for (Method method : CapKernel.class.getMethods()) {
            boolean throwsNone = method.getName().equals("current") || method.getName().equals("count");
            if (method.getDeclaringClass() != CapKernel.class) {
                continue;
            }
            TreeSet<String> found = new TreeSet<>();
            for (Class<?> thrown : method.getExceptionTypes()) {
                found.add(thrown.getSimpleName());
            }
            if (!found.equals(throwsNone ? new TreeSet<String>() : due)) {
                check.tell("throws " + found + ": " + method);
            }
        }
    }

    private static void looksAtFields(Check check) {
        for (Field field : CapKernel.class.getDeclaredFields()) {
            boolean ofTheFace = field.getName().equals("OK") || field.getName().equals("ABORTED");
            if (!ofTheFace && !Modifier.isPrivate(field.getModifiers())) {
                check.tell("a field that is not private: " + field);
            }
        }
    }
}
