/** Ends a test that does not come to its own end, so that a program that hangs fails. */
final class Watch {
    private static final long MOST_MILLISECONDS = 90_000;
    private static boolean begun = false;

    private Watch() {
    }

    static synchronized void begin() {
        if (begun) {
            return;
        }
        begun = true;
        Thread thread = new Thread(Watch::waitAndEnd);
        thread.setDaemon(true);
        thread.start();
    }

    private static void waitAndEnd() {
        try {
            Thread.sleep(MOST_MILLISECONDS);
        } catch (InterruptedException e) {
            return;
        }
        System.out.println("the test has not ended after " + MOST_MILLISECONDS / 1000 + " seconds");
        Runtime.getRuntime().halt(1);
    }
}
