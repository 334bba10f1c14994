/** Promises 15 to 17: undo, keep, restore. */
public final class HistoryTest {
    public static void main(String[] args) {
        undoOneByOne();
        onlyFourStates();
        whatIsRecorded();
        whatUndoBringsBack();
        keepAndRestore();
        restoreIsAnAct();
        snapshotStaysAsItWas();
        Check.finish("HistoryTest");
    }

    private static void undoOneByOne() {
        MessengerCasts x = new MessengerCasts();
        Check.due(15, "undo()", x.undo(), Check.NONE);
        x.pay(10);
        x.setSlope(3);
        x.send();
        Check.due(15, "undo()", x.undo(), 2);
        Check.due(15, "count(9)", x.count(9), 0);
        Check.due(15, "count(10)", x.count(10), 0);
        Check.due(15, "undo()", x.undo(), 1);
        Check.due(15, "count(2)", x.count(2), 0);
        Check.due(15, "count(1)", x.count(1), 10);
        Check.due(15, "undo()", x.undo(), 0);
        Check.due(15, "count(1)", x.count(1), 0);
        Check.due(15, "undo()", x.undo(), Check.NONE);
    }

    private static void onlyFourStates() {
        MessengerCasts x = new MessengerCasts();
        for (int i = 1; i <= 7; i++) {
            x.pay(1);
            Check.due(15, "count(17)", x.count(17), Math.min(i, 4));
        }
        for (int i = 3; i >= 0; i--) {
            Check.due(15, "undo()", x.undo(), i);
            Check.due(15, "count(1)", x.count(1), 3 + i);
        }
        Check.due(15, "undo()", x.undo(), Check.NONE);
        Check.due(15, "count(1)", x.count(1), 3);
        x.pay(1);
        Check.due(15, "undo() of a new act", x.undo(), 0);
        Check.due(15, "count(1)", x.count(1), 3);
    }

    private static void whatIsRecorded() {
        MessengerCasts x = new MessengerCasts();
        x.pay(-5);
        x.setSlope(0);
        x.weight(false);
        x.takeOff(0);
        x.send();
        x.pass(0);
        x.setWater(0, 200, 340);
        x.set(0, 20);
        x.perform();
        x.restore();
        x.type('b');
        x.clearText();
        x.keep();
        x.stopped(0);
        x.quietIn();
        Check.due(15, "count(17), nothing was done", x.count(17), 0);
        x.pass(5);
        x.setWater(0, 0, 0);
        x.weight(true);
        x.clamp(true);
        Check.due(15, "count(17)", x.count(17), 4);
        Check.due(15, "undo() of clamp", x.undo(), 3);
        Check.due(15, "count(5)", x.count(5), 0);
        Check.due(15, "undo() of weight", x.undo(), 2);
        Check.due(15, "count(4)", x.count(4), 0);
        Check.due(15, "undo() of setWater", x.undo(), 1);
        Check.due(15, "layer(0, 0)", x.layer(0, 0), 200);
        Check.due(15, "layer(0, 1)", x.layer(0, 1), 340);
        Check.due(15, "undo() of pass", x.undo(), 0);
        Check.due(15, "count(0)", x.count(0), 0);
        x.setWater(1, -20, 0);
        Check.due(15, "setWater, answer below nought", x.setWater(1, -19, 0), -20);
        Check.due(15, "count(17)", x.count(17), 2);
        x.set(1, 7);
        Check.due(15, "undo() of set", x.undo(), 2);
        Check.due(15, "count(16)", x.count(16), 200);
    }

    private static void whatUndoBringsBack() {
        MessengerCasts x = Check.after("m;+40;m;+20;!;.3;!");
        x.type('?');
        x.pass(50);
        Check.due(15, "count(7)", x.count(7), 2);
        Check.due(15, "undo()", x.undo(), 1);
        int[] counts = {3, 60, 0, 0, 0, 2, 2, 0, 0, 2, 2, 0, 0, 0, 0, 20, 200, 1, 19};
        for (int i = 0; i < counts.length; i++) {
            Check.due(15, "count(" + i + ")", x.count(i), counts[i]);
        }
        Check.due(15, "messenger(0, 0)", x.messenger(0, 0), 45);
        Check.due(15, "messenger(1, 0)", x.messenger(1, 0), 60);
        Check.due(15, "bottle(1, 4)", x.bottle(1, 4), 1);
        Check.due(15, "bottle(1, 5)", x.bottle(1, 5), 0);
        Check.due(15, "bottle(1, 6)", x.bottle(1, 6), Check.NONE);
        x.pay(-60);
        Check.due(15, "count(14)", x.count(14), 2);
        x.takeOff(1);
        Check.due(15, "undo() of takeOff", x.undo(), 2);
        Check.due(15, "bottle(1, 0)", x.bottle(1, 0), 40);
        Check.due(15, "undo() of pay", x.undo(), 1);
        Check.due(15, "count(14)", x.count(14), 0);
        Check.due(15, "count(9)", x.count(9), 2);
    }

    private static void keepAndRestore() {
        MessengerCasts x = new MessengerCasts();
        Check.due(17, "restore(), no snapshot", x.restore(), Check.NONE);
        Check.due(16, "keep()", x.keep(), 0);
        x.clamp(true);
        x.pay(9);
        Check.due(16, "count(17)", x.count(17), 2);
        Check.due(17, "restore()", x.restore(), 0);
        Check.due(17, "count(1)", x.count(1), 0);
        x.clamp(false);
        x.pay(7);
        x.clamp(true);
        Check.due(16, "keep() in place of the one that was", x.keep(), 2);
        x.pay(-7);
        x.takeOff(1);
        x.takeOff(0);
        Check.due(17, "count(5)", x.count(5), 0);
        Check.due(17, "restore()", x.restore(), 2);
        Check.due(17, "count(1)", x.count(1), 7);
        Check.due(17, "bottle(1, 4)", x.bottle(1, 4), 1);
        Check.due(17, "bottle(0, 4)", x.bottle(0, 4), 0);
        Check.due(17, "restore(): it stays", x.restore(), 2);
    }

    private static void restoreIsAnAct() {
        MessengerCasts x = new MessengerCasts();
        x.pay(5);
        x.keep();
        x.pay(6);
        Check.due(17, "count(17)", x.count(17), 2);
        Check.due(17, "restore()", x.restore(), 0);
        Check.due(17, "count(17)", x.count(17), 3);
        Check.due(17, "restore(), nothing changes", x.restore(), 0);
        Check.due(17, "count(17)", x.count(17), 4);
        Check.due(15, "undo()", x.undo(), 3);
        Check.due(15, "count(1)", x.count(1), 5);
        Check.due(15, "undo()", x.undo(), 2);
        Check.due(15, "count(1)", x.count(1), 11);
        Check.due(15, "undo()", x.undo(), 1);
        Check.due(15, "count(1)", x.count(1), 5);
        Check.due(17, "restore() after undo", x.restore(), 0);
        Check.due(17, "count(17)", x.count(17), 2);
        // Full history: the oldest is dropped for restore() too.
        x.pay(1);
        x.pay(1);
        x.restore();
        Check.due(17, "count(17)", x.count(17), 4);
        Check.due(17, "undo()", x.undo(), 3);
        Check.due(17, "count(1)", x.count(1), 7);
    }

    private static void snapshotStaysAsItWas() {
        MessengerCasts x = Check.after("m;+40;b;+20;!;.1;/1");
        x.setWater(5, 5, 5);
        x.set(0, 5);
        x.set(1, 5);
        x.keep();
        x.set(1, 999);
        x.set(0, 6);
        x.setWater(5, 6, 6);
        x.setSlope(2);
        x.pass(99);
        x.send();
        x.weight(true);
        x.clearText();
        x.restore();
        int[] counts = {1, 60, 1, 1, 0, 2, 2, 0, 0, 1, 1, 0, 0, 0, 0, 5, 5, 4, 0};
        for (int i = 0; i < counts.length; i++) {
            Check.due(17, "count(" + i + ")", x.count(i), counts[i]);
        }
        Check.due(17, "layer(5, 0)", x.layer(5, 0), 5);
        Check.due(17, "layer(5, 1)", x.layer(5, 1), 5);
        Check.due(17, "messenger(0, 0)", x.messenger(0, 0), 55);
        Check.due(17, "bottle(0, 4)", x.bottle(0, 4), 1);
        Check.due(17, "bottle(1, 3)", x.bottle(1, 3), 0);
        x.pass(99);
        x.restore();
        Check.due(17, "bottle(1, 3) once more", x.bottle(1, 3), 0);
        Check.due(17, "count(0) once more", x.count(0), 1);
    }
}
