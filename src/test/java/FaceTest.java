import java.lang.reflect.Field;
import java.lang.reflect.Member;
import java.lang.reflect.Method;
import java.lang.reflect.Modifier;
import java.util.Arrays;
import java.util.Set;
import java.util.TreeSet;

/** The public face of the document, and rules 1 and 5 of LANGUAGE.md as far as the compiled class shows them. */
public final class FaceTest {
    private static final Set<String> METHODS = Set.of(
        "int addAnd[int, int]", "boolean setLatch[int, int, int]", "boolean setBad[int]", "int check[]",
        "int getResult[]", "int getTraceLength[]", "int getTraceInputs[int]", "int getTraceState[int]",
        "int evalLit[int, int, int]", "int getGateCount[]", "int getInputCount[]", "int getLatchCount[]",
        "int getLatchNext[int]", "int getLatchInit[int]", "int getBadLit[]");
    private static final Set<String> CONSTANTS = Set.of(
        "REFUSED", "NONE", "SAFE", "UNSAFE", "MAX_INPUTS", "MIN_LATCHES", "MAX_LATCHES", "MAX_GATES",
        "MAX_TRACE_STEPS");

    public static void main(String[] args) throws NoSuchMethodException {
        Class<?> face = InductChecker.class;
        Due.is("public and final", face.getModifiers(), Modifier.PUBLIC | Modifier.FINAL);
        Due.is("nested classes", face.getDeclaredClasses().length, 0);
        Due.is("interfaces", face.getInterfaces().length, 0);
        Due.is("extends Object alone", face.getSuperclass() == Object.class, true);
        Due.is("constructors", face.getDeclaredConstructors().length, 1);
        Due.is("the constructor is public",
            Modifier.isPublic(face.getDeclaredConstructor(int.class, int.class).getModifiers()), true);
        methods(face);
        fields(face);
        Due.end();
    }

    private static boolean isHidden(Member member) {
        return Modifier.isPrivate(member.getModifiers());
    }

    private static void methods(Class<?> face) {
        Set<String> seen = new TreeSet<>();
        Set<String> names = new TreeSet<>();
        for (Method method : face.getDeclaredMethods()) {
            if (!isHidden(method)) {
                Due.is(method + " is a public instance method", method.getModifiers(), Modifier.PUBLIC);
                names.add(method.getName());
                seen.add(method.getReturnType() + " " + method.getName()
                    + Arrays.toString(method.getParameterTypes()));
            }
        }
        Due.is("methods " + seen, seen.equals(METHODS), true);
        for (Method method : face.getDeclaredMethods()) {
            Due.is(method + " bears a public method's name", isHidden(method) && names.contains(method.getName()), false);
            Due.is(method + " has at most seven parameters", method.getParameterCount() <= 7, true);
        }
    }

    private static void fields(Class<?> face) {
        Set<String> seen = new TreeSet<>();
        for (Field field : face.getDeclaredFields()) {
            boolean isStatic = Modifier.isStatic(field.getModifiers());
            if (isStatic) {
                boolean isWhole = field.getType() == int.class || field.getType() == long.class;
                Due.is(field + " is a constant", isWhole && Modifier.isFinal(field.getModifiers()), true);
            }
            if (!isHidden(field)) {
                Due.is(field + " is an int constant", isStatic && field.getType() == int.class, true);
                seen.add(field.getName());
            }
        }
        Due.is("constants " + seen, seen.equals(CONSTANTS), true);
    }
}
