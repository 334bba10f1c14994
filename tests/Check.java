/** What the tests share: they name the promise that each answer belongs to. */
final class Check {
    static final int UNKNOWN = -1001;
    static final int BAD_VALUE = -1002;
    static final int FULL = -1003;
    static final int NOT_POSSIBLE = -1004;
    static final int NONE = -1005;

    private static final int LONGEST_TEST_IN_SECONDS = 240;

    private static int asked;
    private static int wrong;

    static {
        watch();
    }

    private Check() {
    }

    /** A call that does not end is a fault, too: such a test ends with exit code 1 and does not hang. */
    static void watch() {
        Thread watcher = new Thread(() -> {
            try {
                Thread.sleep(1000L * LONGEST_TEST_IN_SECONDS);
            } catch (InterruptedException e) {
                return;
            }
            System.out.println("a call did not end in " + LONGEST_TEST_IN_SECONDS + " seconds");
            Runtime.getRuntime().halt(1);
        });
        watcher.setDaemon(true);
        watcher.start();
    }

    static void due(int promise, String call, int got, int want) {
        asked++;
        if (got != want) {
            wrong++;
            System.out.println("promise " + promise + ": " + call + " answered " + got + ", due is " + want);
        }
    }

    /** Puts the text in place of the one that was. */
    static int write(MessengerCasts x, String text) {
        int length = x.clearText();
        for (int i = 0; i < text.length(); i++) {
            length = x.type(text.charAt(i));
        }
        return length;
    }

    static int perform(MessengerCasts x, String text) {
        write(x, text);
        return x.perform();
    }

    /** A cast that is all done, to bring an object where a test starts. */
    static MessengerCasts after(String text) {
        MessengerCasts x = new MessengerCasts();
        if (!text.isEmpty()) {
            if (perform(x, text) < 0) {
                wrong++;
                System.out.println("the test's start \"" + text + "\" was not done");
            }
        }
        return x;
    }

    static void finish(String name) {
        System.out.println(name + ": " + asked + " answers, " + wrong + " wrong");
        if (wrong != 0) {
            System.exit(1);
        }
    }
}
