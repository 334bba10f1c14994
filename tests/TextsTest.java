/** Promises 11 to 14: type, clearText, perform, stopped. */
public final class TextsTest {
    public static void main(String[] args) {
        typeAndClear();
        faults();
        faultsOfLongTexts();
        allKinds();
        nothingStopsNone();
        oneAct();
        allOrNothing();
        stops();
        stoppedStays();
        Check.finish("TextsTest");
    }

    private static void typeAndClear() {
        MessengerCasts x = new MessengerCasts();
        Check.due(12, "clearText()", x.clearText(), 0);
        char[] any = {'b', ' ', 'x', (char) 0, (char) 255, (char) 65535};
        for (int i = 0; i < any.length; i++) {
            Check.due(11, "type(" + (int) any[i] + ")", x.type(any[i]), i + 1);
        }
        Check.due(11, "count(18)", x.count(18), 6);
        Check.due(12, "clearText()", x.clearText(), 6);
        Check.due(12, "count(18)", x.count(18), 0);
        for (int i = 1; i <= 60; i++) {
            Check.due(11, "type number " + i, x.type('b'), i);
        }
        Check.due(11, "type of a 61st", x.type('b'), Check.FULL);
        Check.due(11, "count(18)", x.count(18), 60);
        Check.due(12, "clearText()", x.clearText(), 60);
        Check.due(11, "type again", x.type('m'), 1);
        Check.due(11, "count(17): no act", x.count(17), 0);
    }

    private static void fault(String text, int place) {
        MessengerCasts x = new MessengerCasts();
        Check.due(13, "perform() of \"" + text + "\"", Check.perform(x, text), -1100 - place);
        Check.due(13, "count(17)", x.count(17), 0);
        Check.due(13, "count(18)", x.count(18), text.length());
        Check.due(14, "stopped(0): a fault is no stop", x.stopped(0), Check.NONE);
    }

    private static void faults() {
        fault("", 0);
        String[] first = {";", "x", " ", "5", "0", "B", "+;", "+0", "-0", ".0", "/7", "+b", "-+", ".;", "/;", "/-"};
        int[] places = {0, 0, 0, 0, 0, 0, 1, 1, 1, 1, 1, 1, 1, 1, 1, 1};
        for (int i = 0; i < first.length; i++) {
            fault(first[i], places[i]);
        }
        String[] early = {"+", "-", ".", "/", "b;", "/0;", "+1;", "b;+", "m;!;.", "+999;"};
        for (String text : early) {
            fault(text, text.length());
        }
        fault("bb", 1);
        fault("b5", 1);
        fault("!1", 1);
        fault("m ;", 1);
        fault("b;;b", 2);
        fault("+1000", 4);
        fault("+1009", 4);
        fault("-1000", 4);
        fault(".1000", 4);
        fault("+999b", 4);
        fault("+10b", 3);
        fault("+1x", 2);
        fault("/00", 2);
        fault("/10", 2);
        fault("/19", 2);
        fault("/61", 2);
        fault("/ 1", 1);
        fault("+01", 1);
        fault("b;+1;.01", 6);
        fault("b" + (char) 0, 1);
        fault("" + (char) 0, 0);
        fault("+" + (char) 0x0661, 1);
        // The fault comes ahead of a stop.
        fault("-5;x", 3);
    }

    private static void faultsOfLongTexts() {
        StringBuilder row = new StringBuilder();
        for (int i = 0; i < 30; i++) {
            row.append("b;");
        }
        fault(row.toString(), 60);
        fault(row.substring(0, 59) + "b", 59);
        MessengerCasts x = Check.after("+1");
        StringBuilder slopes = new StringBuilder();
        for (int i = 0; i < 20; i++) {
            slopes.append(i == 0 ? "/" : ";/").append(i % 7);
        }
        Check.due(13, "perform() of 20 slopes", Check.perform(x, slopes.toString()), 20);
        Check.due(13, "count(2)", x.count(2), 5);
        StringBuilder sends = new StringBuilder("!");
        for (int i = 0; i < 9; i++) {
            sends.append(";!;!;.9");
        }
        sends.setLength(59);
        Check.due(13, "perform() of a long cast", Check.perform(x, sends.toString()), 26);
        // The most things there can be are 30; no bottle has room beside itself.
        MessengerCasts y = new MessengerCasts();
        Check.due(13, "perform() of 30 bottles", Check.perform(y, row.substring(0, 59)), Check.NOT_POSSIBLE);
        Check.due(14, "stopped(0)", y.stopped(0), 1);
    }

    private static void allKinds() {
        MessengerCasts x = new MessengerCasts();
        Check.due(13, "perform() of b", Check.perform(x, "b"), 1);
        Check.due(13, "count(5)", x.count(5), 1);
        Check.due(13, "bottle(0, 4)", x.bottle(0, 4), 0);
        Check.due(13, "perform() of +999", Check.perform(x, "+999"), 1);
        Check.due(13, "count(1)", x.count(1), 999);
        Check.due(13, "bottle(0, 13): jerked", x.bottle(0, 13), 1);
        Check.due(13, "perform() of -9", Check.perform(x, "-9"), 1);
        Check.due(13, "count(1)", x.count(1), 990);
        Check.due(13, "perform() of m", Check.perform(x, "m"), 1);
        Check.due(13, "bottle(1, 4)", x.bottle(1, 4), 1);
        Check.due(13, "bottle(1, 0)", x.bottle(1, 0), 990);
        Check.due(13, "perform() of /6", Check.perform(x, "/6"), 1);
        Check.due(13, "count(2)", x.count(2), 6);
        Check.due(13, "perform() of /0", Check.perform(x, "/0"), 1);
        Check.due(13, "count(2)", x.count(2), 0);
        Check.due(13, "perform() of !", Check.perform(x, "!"), 1);
        Check.due(13, "count(10)", x.count(10), 1);
        Check.due(13, "perform() of .100", Check.perform(x, ".100"), 1);
        Check.due(13, "count(0)", x.count(0), 100);
        Check.due(13, "messenger(0, 0)", x.messenger(0, 0), 490);
        Check.due(13, "perform() again: the text stays", x.perform(), 1);
        Check.due(13, "count(0)", x.count(0), 200);
        Check.due(13, "count(18)", x.count(18), 4);
    }

    private static void nothingStopsNone() {
        MessengerCasts x = new MessengerCasts();
        Check.due(13, "perform() of /0 at the slope 0", Check.perform(x, "/0"), 1);
        Check.due(13, "count(17): it is an act all the same", x.count(17), 1);
        Check.due(13, "perform() of /0;+5;/0;b", Check.perform(x, "/0;+5;/0;b"), 4);
        Check.due(13, "count(5)", x.count(5), 1);
        Check.due(14, "stopped(0)", x.stopped(0), Check.NONE);
    }

    private static void oneAct() {
        MessengerCasts x = new MessengerCasts();
        Check.due(13, "perform()", Check.perform(x, "b;+5;b;+5;b;+5;b;/3"), 8);
        Check.due(13, "count(17)", x.count(17), 1);
        Check.due(15, "undo()", x.undo(), 0);
        Check.due(15, "count(5)", x.count(5), 0);
        Check.due(15, "count(1)", x.count(1), 0);
        Check.due(15, "count(2)", x.count(2), 0);
        Check.due(15, "count(18): the text stays", x.count(18), 19);
        Check.due(13, "perform() again", x.perform(), 8);
    }

    private static void allOrNothing() {
        MessengerCasts x = Check.after("m;+50;b;!;.2");
        Check.due(13, "perform() that stops", Check.perform(x, "+20;/2;.3;-10;m;!;.4;-999"), Check.NOT_POSSIBLE);
        int[] counts = {2, 50, 0, 0, 0, 2, 1, 0, 0, 1, 1, 0, 0, 0, 0, 20, 200, 1, 25};
        for (int i = 0; i < counts.length; i++) {
            Check.due(13, "count(" + i + ")", x.count(i), counts[i]);
        }
        Check.due(13, "messenger(0, 0)", x.messenger(0, 0), 40);
        Check.due(13, "bottle(0, 4)", x.bottle(0, 4), 1);
        Check.due(13, "bottle(1, 0)", x.bottle(1, 0), 50);
        Check.due(14, "stopped(0)", x.stopped(0), 7);
        Check.due(14, "stopped(1)", x.stopped(1), Check.NOT_POSSIBLE);
    }

    private static void stop(String text, int number, int error) {
        MessengerCasts x = new MessengerCasts();
        Check.due(13, "perform() of \"" + text + "\"", Check.perform(x, text), Check.NOT_POSSIBLE);
        Check.due(14, "stopped(0) of \"" + text + "\"", x.stopped(0), number);
        Check.due(14, "stopped(1) of \"" + text + "\"", x.stopped(1), error);
        Check.due(13, "count(17)", x.count(17), 0);
        Check.due(13, "count(1)", x.count(1), 0);
    }

    private static void stops() {
        stop("-1", 0, Check.NOT_POSSIBLE);
        stop("!", 0, Check.NOT_POSSIBLE);
        stop("+999;+1", 1, Check.FULL);
        stop("b;b", 1, Check.NOT_POSSIBLE);
        stop("b;+4;m", 2, Check.NOT_POSSIBLE);
        stop("+9;!;!;!;!;!;!;!;!;!;!;!;!;!", 13, Check.FULL);
        stop("b;+5;b;+5;b;+5;b;+5;b;+5;b;+5;b;+5;b;+5;b;+5;b;+5;b", 20, Check.FULL);
        // Of two that would stop, the first.
        stop("/0;-1;!", 1, Check.NOT_POSSIBLE);
        MessengerCasts x = new MessengerCasts();
        for (int i = 0; i < 100; i++) {
            x.pass(999);
        }
        Check.due(13, "perform() of .97;.1;.1", Check.perform(x, ".97;.1;.1"), 3);
        x.undo();
        Check.due(13, "perform() of .98;.1;.1", Check.perform(x, ".98;.1;.1"), Check.NOT_POSSIBLE);
        Check.due(14, "stopped(0)", x.stopped(0), 2);
        Check.due(14, "stopped(1)", x.stopped(1), Check.FULL);
        x.pass(99);
        Check.due(13, "perform() of .1", Check.perform(x, ".1"), Check.NOT_POSSIBLE);
        Check.due(14, "stopped(1)", x.stopped(1), Check.FULL);
    }

    private static void stoppedStays() {
        MessengerCasts x = new MessengerCasts();
        Check.due(14, "stopped(-1)", x.stopped(-1), Check.BAD_VALUE);
        Check.due(14, "stopped(2)", x.stopped(2), Check.BAD_VALUE);
        Check.due(14, "stopped(0)", x.stopped(0), Check.NONE);
        Check.due(14, "stopped(1)", x.stopped(1), Check.NONE);
        x.keep();
        Check.perform(x, "+5;-6");
        Check.due(14, "stopped(0)", x.stopped(0), 1);
        Check.perform(x, "+5;!");
        Check.due(14, "stopped(0), a cast that was done", x.stopped(0), 1);
        Check.due(14, "stopped(1)", x.stopped(1), Check.NOT_POSSIBLE);
        Check.perform(x, "?");
        Check.due(14, "stopped(0), a faulty cast", x.stopped(0), 1);
        Check.due(14, "pay(-999), an error outside", x.pay(-999), Check.NOT_POSSIBLE);
        Check.due(14, "stopped(0)", x.stopped(0), 1);
        x.undo();
        x.restore();
        Check.due(14, "stopped(0) is no part of the state", x.stopped(0), 1);
        Check.perform(x, "+999;-1;+2");
        Check.due(14, "stopped(0), a later stop", x.stopped(0), 2);
        Check.due(14, "stopped(1)", x.stopped(1), Check.FULL);
        Check.due(14, "stopped(MIN)", x.stopped(Integer.MIN_VALUE), Check.BAD_VALUE);
    }
}
