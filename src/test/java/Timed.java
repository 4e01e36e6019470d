import java.util.Arrays;

/** Runs a test, the first argument, and ends it as failed if it takes so long that a call of it can't be one that ends. */
public final class Timed {
    private static final long MOST_SECONDS = 300;

    public static void main(String[] args) throws ReflectiveOperationException {
        Thread watch = new Thread(() -> endLate(args[0]));
        watch.setDaemon(true);
        watch.start();
        Class.forName(args[0]).getMethod("main", String[].class).invoke(null, (Object) Arrays.copyOfRange(args, 1, args.length));
    }

    private static void endLate(String test) {
        try {
            Thread.sleep(MOST_SECONDS * 1000);
        } catch (InterruptedException e) {
            return;
        }
        System.out.println(test + ": not ended behind " + MOST_SECONDS + " seconds");
        System.out.flush();
        Runtime.getRuntime().halt(1);
    }
}
