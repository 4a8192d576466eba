import java.lang.reflect.InvocationTargetException;

/** Runs the main method of a test and fails if it does not end in time: Within <seconds> <test>. */
public final class Within {
    private Within() {
    }

    public static void main(String[] args) throws ReflectiveOperationException {
        long seconds = Long.parseLong(args[0]);
        Thread watch = new Thread(() -> endAfter(seconds, args[1]));
        watch.setDaemon(true);
        watch.start();
        try {
            Class.forName(args[1]).getMethod("main", String[].class).invoke(null, (Object) new String[0]);
        } catch (InvocationTargetException thrown) {
            thrown.getCause().printStackTrace(System.out);
            System.exit(1);
        }
    }

    private static void endAfter(long seconds, String name) {
        try {
            Thread.sleep(1000 * seconds);
        } catch (InterruptedException woken) {
            return;
        }
        System.out.println(name + " did not end in " + seconds + " seconds");
        System.out.flush();
        Runtime.getRuntime().halt(1);
    }
}
