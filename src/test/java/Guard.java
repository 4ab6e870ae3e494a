import java.lang.reflect.Method;

/**
 * Runs the main method of the test class it is told, and ends it as failed if it is
 * not done in time: a call that never returns must fail CI and not hang it.
 */
final class Guard {
    private static final long LIMIT_MILLIS = 120_000;

    private Guard() {
    }

    public static void main(String[] args) throws Exception {
        Thread watch = new Thread(() -> endAfterTheLimit(args[0]));
        watch.setDaemon(true);
        watch.start();
        Method test = Class.forName(args[0]).getMethod("main", String[].class);
        test.invoke(null, (Object) new String[0]);
    }

    private static void endAfterTheLimit(String name) {
        try {
            Thread.sleep(LIMIT_MILLIS);
        } catch (InterruptedException e) {
            return;
        }
        System.out.println(name + " was not done in time: some call does not return");
        Runtime.getRuntime().halt(1);
    }
}
