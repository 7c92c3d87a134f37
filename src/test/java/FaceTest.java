import java.lang.reflect.Constructor;
import java.lang.reflect.Field;
import java.lang.reflect.Method;
import java.lang.reflect.Modifier;
import java.util.Arrays;
import java.util.Set;
import java.util.TreeSet;

/** The public face of the document, and rule 1 of LANGUAGE.md. */
public final class FaceTest {
    private static final String ARGUMENT_STATE = " throws IllegalArgumentException, IllegalStateException";

    private static final String[] FACE = {
        "int pay(int, int, int, int)" + ARGUMENT_STATE,
        "int bond(int, int, int, int)" + ARGUMENT_STATE,
        "int unbond(int, int, int, int)" + ARGUMENT_STATE,
        "int free(int, int, int)" + ARGUMENT_STATE,
        "int prove(int, int, int, int)" + ARGUMENT_STATE,
        "int next() throws IllegalStateException",
        "void keep(int) throws IndexOutOfBoundsException",
        "int back(int) throws IndexOutOfBoundsException",
        "int account(int, int) throws IndexOutOfBoundsException, IllegalArgumentException",
        "int sum(int) throws IllegalArgumentException",
        "int proposer(int, int) throws IllegalArgumentException",
        "int share(int)",
    };

    public static void main(String[] args) {
        Checks checks = new Checks();
        Class<?> type = StakeLedger.class;
        int modifiers = type.getModifiers();
        checks.due("the class is public and final", modifiers & ~0x20, Modifier.PUBLIC | Modifier.FINAL);
        methods(checks, type);
        constructors(checks, type);
        for (Field field : type.getDeclaredFields()) {
            hidden(checks, field.getName(), field.getModifiers());
        }
        for (Class<?> inside : type.getDeclaredClasses()) {
            boolean isStatic = Modifier.isStatic(inside.getModifiers());
            checks.due(inside.getName() + " is static", isStatic ? 1 : 0, 1);
            for (Method method : inside.getDeclaredMethods()) {
                otherName(checks, method);
            }
        }
        checks.end();
    }

    private static void methods(Checks checks, Class<?> type) {
        Set<String> missing = new TreeSet<>(Arrays.asList(FACE));
        for (Method method : type.getDeclaredMethods()) {
            String told = told(method);
            if (!missing.remove(told)) {
                hidden(checks, told, method.getModifiers());
                otherName(checks, method);
            } else {
                checks.due(told + " is public", method.getModifiers(), Modifier.PUBLIC);
            }
        }
        checks.due("methods that are missing: " + missing, missing.size(), 0);
    }

    private static void constructors(Checks checks, Class<?> type) {
        Constructor<?>[] all = type.getDeclaredConstructors();
        checks.due("constructors", all.length, 1);
        checks.due("the constructor is public", all[0].getModifiers(), Modifier.PUBLIC);
        checks.due("parameters of the constructor", all[0].getParameterCount(), 0);
    }

    private static void hidden(Checks checks, String name, int modifiers) {
        checks.due(name + " is private", Modifier.isPrivate(modifiers) ? 1 : 0, 1);
    }

    private static void otherName(Checks checks, Method method) {
        for (String one : FACE) {
            boolean same = one.contains(" " + method.getName() + "(");
            checks.due(method.getName() + " bears the name of a public method", same ? 1 : 0, 0);
        }
    }

    private static String told(Method method) {
        String told = method.getReturnType().getSimpleName() + " " + method.getName()
            + "(" + names(method.getParameterTypes()) + ")";
        String thrown = names(method.getExceptionTypes());
        return thrown.isEmpty() ? told : told + " throws " + thrown;
    }

    private static String names(Class<?>[] types) {
        StringBuilder names = new StringBuilder();
        for (Class<?> type : types) {
            names.append(names.length() == 0 ? "" : ", ").append(type.getSimpleName());
        }
        return names.toString();
    }
}
