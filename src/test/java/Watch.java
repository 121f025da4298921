import java.lang.reflect.InvocationTargetException;
import java.util.Arrays;

/** Runs the main method of a test, and fails it if it does not end: no call may. */
public final class Watch {
    /** Far above what the longest test takes. */
    private static final int SECONDS = 240;

    private Watch() {
    }

    public static void main(String[] args) throws ReflectiveOperationException {
        Thread watcher = new Thread(() -> waitFor(args[0]));
        watcher.setDaemon(true);
        watcher.start();
        try {
            Class.forName(args[0]).getMethod("main", String[].class).invoke(null, (Object) Arrays.copyOfRange(args, 1, args.length));
        } catch (InvocationTargetException e) {
            e.getCause().printStackTrace();
            System.exit(1);
        }
    }

    private static void waitFor(String test) {
        try {
            Thread.sleep(SECONDS * 1000L);
        } catch (InterruptedException e) {
            return;
        }
        System.out.println(test + " has not ended in " + SECONDS + " seconds");
        Runtime.getRuntime().halt(1);
    }
}
