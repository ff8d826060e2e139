import java.lang.reflect.InvocationTargetException;
import java.lang.reflect.Method;

/**
 * Runs the test of the given name, which has to come to an end: LANGUAGE.md's rule 7 forbids a
 * call that does not, and no test could tell it otherwise. Ends with the test's own exit code,
 * 1 if it throws, and 2 if it does not end.
 */
final class Limit {
    // The slowest test takes some seconds.
    private static final long SECONDS = 120;

    private Limit() {
    }

    public static void main(String[] args) throws ReflectiveOperationException, InterruptedException {
        Method test = Class.forName(args[0]).getMethod("main", String[].class);
        Thread thread = new Thread(() -> run(test));
        thread.start();
        thread.join(SECONDS * 1000);
        if (thread.isAlive()) {
            System.out.println(args[0] + " does not end: it called");
            for (StackTraceElement call : thread.getStackTrace()) {
                System.out.println("    " + call);
            }
            Runtime.getRuntime().halt(2);
        }
    }

    private static void run(Method test) {
        try {
            test.invoke(null, (Object) new String[0]);
        } catch (InvocationTargetException thrown) {
            thrown.getCause().printStackTrace();
            System.exit(1);
        } catch (IllegalAccessException notPublic) {
            notPublic.printStackTrace();
            System.exit(1);
        }
    }
}
