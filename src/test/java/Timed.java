/** Runs the main method of a test; a call that never ends is a fault, too, so that too long a test ends with 1. */
public final class Timed {
    private static final int MOST_SECONDS = 180;

    private Timed() {
    }

    public static void main(String[] args) throws ReflectiveOperationException {
        Thread guard = new Thread(() -> endLater(args[0]));
        guard.setDaemon(true);
        guard.start();
        Class.forName(args[0]).getMethod("main", String[].class).invoke(null, (Object) new String[0]);
    }

    private static void endLater(String name) {
        try {
            Thread.sleep(MOST_SECONDS * 1000L);
        } catch (InterruptedException e) {
            return;
        }
        System.out.println(name + ": not at its end behind " + MOST_SECONDS + " seconds");
        System.out.flush();
        Runtime.getRuntime().halt(1);
    }
}
