/** What the tests share: they name the promise that each answer belongs to. */
final class Check {
    static final int UNKNOWN = -1001;
    static final int BAD_VALUE = -1002;
    static final int FULL = -1003;
    static final int NOT_POSSIBLE = -1004;
    static final int NONE = -1005;

    private static int asked;
    private static int wrong;

    private Check() {
    }

    static void due(int promise, String call, int got, int want) {
        asked++;
        if (got != want) {
            wrong++;
            System.out.println("promise " + promise + ": " + call + " answered " + got + ", due is " + want);
        }
    }

    /** Puts the text in place of the one that was. */
    static int write(MessengerCasts x, String text) {
        int length = x.clearText();
        for (int i = 0; i < text.length(); i++) {
            length = x.type(text.charAt(i));
        }
        return length;
    }

    static int perform(MessengerCasts x, String text) {
        write(x, text);
        return x.perform();
    }

    /** A cast that is all done, to bring an object where a test starts. */
    static MessengerCasts after(String text) {
        MessengerCasts x = new MessengerCasts();
        if (!text.isEmpty()) {
            if (perform(x, text) < 0) {
                wrong++;
                System.out.println("the test's start \"" + text + "\" was not done");
            }
        }
        return x;
    }

    static void finish(String name) {
        System.out.println(name + ": " + asked + " answers, " + wrong + " wrong");
        if (wrong != 0) {
            System.exit(1);
        }
    }
}
