/** Holds answers against those that are due, and ends the program by what it found. */
final class Due {
    private static final int MOST_SECONDS = 300;

    static {
        watch();
    }

    private int right;
    private int wrong;

    /** A call that does not end must make its test fail, and not wait for ever. */
    private static void watch() {
        Thread watch = new Thread(() -> {
            try {
                Thread.sleep(1000L * MOST_SECONDS);
            } catch (InterruptedException e) {
                return;
            }
            System.out.println("a call did not end within " + MOST_SECONDS + " seconds");
            System.exit(1);
        });
        watch.setDaemon(true);
        watch.start();
    }

    void same(String call, long got, long due) {
        if (got == due) {
            right++;
        } else {
            wrong++;
            System.out.println(call + " answered " + got + ", due is " + due);
        }
    }

    void isTrue(String what, boolean holds) {
        same(what, holds ? 1 : 0, 1);
    }

    int wrongAnswers() {
        return wrong;
    }

    void end() {
        System.out.println(right + " answers are as due, " + wrong + " are not");
        if (wrong != 0 || right == 0) {
            System.exit(1);
        }
    }
}
