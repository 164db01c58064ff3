import java.lang.reflect.InvocationTargetException;

// Runs the main method of the test that is named, and fails if it does not end: a call that never
// answers would else hold up CI instead of failing it.
public final class Watch {
    private static final long MOST_MILLISECONDS = 120000;

    public static void main(String[] args) throws Exception {
        Class<?> test = Class.forName(args[0]);
        boolean[] ended = new boolean[1];
        Thread run = new Thread(() -> ended[0] = runsToItsEnd(test));
        run.setDaemon(true);
        run.start();
        run.join(MOST_MILLISECONDS);
        if (run.isAlive()) {
            System.out.println(args[0] + " does not end");
        }
        System.exit(ended[0] ? 0 : 1);
    }

    private static boolean runsToItsEnd(Class<?> test) {
        try {
            test.getMethod("main", String[].class).invoke(null, (Object) new String[0]);
            return true;
        } catch (InvocationTargetException thrown) {
            thrown.getCause().printStackTrace(System.out);
        } catch (ReflectiveOperationException missing) {
            missing.printStackTrace(System.out);
        }
        return false;
    }
}
