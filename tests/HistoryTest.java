/** Promises 15 to 17: undo, keep, restore. */
public final class HistoryTest {
    public static void main(String[] args) {
        undoOneByOne();
        onlyFourStates();
        whatIsRecorded();
        whatUndoBringsBack();
        keepAndRestore();
        restoreIsAnAct();
        snapshotStaysAsItWas();
        undoOfEachAct();
        allIsBroughtBack();
        Check.finish("HistoryTest");
    }

    private static void undoOneByOne() {
        MessengerCasts x = new MessengerCasts();
        Check.due(15, "undo()", x.undo(), Check.NONE);
        x.pay(10);
        x.setSlope(3);
        x.send();
        Check.due(15, "undo()", x.undo(), 2);
        Check.due(15, "count(9)", x.count(9), 0);
        Check.due(15, "count(10)", x.count(10), 0);
        Check.due(15, "undo()", x.undo(), 1);
        Check.due(15, "count(2)", x.count(2), 0);
        Check.due(15, "count(1)", x.count(1), 10);
        Check.due(15, "undo()", x.undo(), 0);
        Check.due(15, "count(1)", x.count(1), 0);
        Check.due(15, "undo()", x.undo(), Check.NONE);
    }

    private static void onlyFourStates() {
        MessengerCasts x = new MessengerCasts();
        for (int i = 1; i <= 7; i++) {
            x.pay(1);
            Check.due(15, "count(17)", x.count(17), Math.min(i, 4));
        }
        for (int i = 3; i >= 0; i--) {
            Check.due(15, "undo()", x.undo(), i);
            Check.due(15, "count(1)", x.count(1), 3 + i);
        }
        Check.due(15, "undo()", x.undo(), Check.NONE);
        Check.due(15, "count(1)", x.count(1), 3);
        x.pay(1);
        Check.due(15, "undo() of a new act", x.undo(), 0);
        Check.due(15, "count(1)", x.count(1), 3);
    }

    private static void whatIsRecorded() {
        MessengerCasts x = new MessengerCasts();
        x.pay(-5);
        x.setSlope(0);
        x.weight(false);
        x.takeOff(0);
        x.send();
        x.pass(0);
        x.setWater(0, 200, 340);
        x.set(0, 20);
        x.perform();
        x.restore();
        x.type('b');
        x.clearText();
        x.keep();
        x.stopped(0);
        x.quietIn();
        Check.due(15, "count(17), nothing was done", x.count(17), 0);
        x.pass(5);
        x.setWater(0, 0, 0);
        x.weight(true);
        x.clamp(true);
        Check.due(15, "count(17)", x.count(17), 4);
        Check.due(15, "undo() of clamp", x.undo(), 3);
        Check.due(15, "count(5)", x.count(5), 0);
        Check.due(15, "undo() of weight", x.undo(), 2);
        Check.due(15, "count(4)", x.count(4), 0);
        Check.due(15, "undo() of setWater", x.undo(), 1);
        Check.due(15, "layer(0, 0)", x.layer(0, 0), 200);
        Check.due(15, "layer(0, 1)", x.layer(0, 1), 340);
        Check.due(15, "undo() of pass", x.undo(), 0);
        Check.due(15, "count(0)", x.count(0), 0);
        x.setWater(1, -20, 0);
        Check.due(15, "setWater, answer below nought", x.setWater(1, -19, 0), -20);
        Check.due(15, "count(17)", x.count(17), 2);
        x.set(1, 7);
        Check.due(15, "undo() of set", x.undo(), 2);
        Check.due(15, "count(16)", x.count(16), 200);
    }

    private static void whatUndoBringsBack() {
        MessengerCasts x = Check.after("m;+40;m;+20;!;.3;!");
        x.type('?');
        x.pass(50);
        Check.due(15, "count(7)", x.count(7), 2);
        Check.due(15, "undo()", x.undo(), 1);
        int[] counts = {3, 60, 0, 0, 0, 2, 2, 0, 0, 2, 2, 0, 0, 0, 0, 20, 200, 1, 19};
        for (int i = 0; i < counts.length; i++) {
            Check.due(15, "count(" + i + ")", x.count(i), counts[i]);
        }
        Check.due(15, "messenger(0, 0)", x.messenger(0, 0), 45);
        Check.due(15, "messenger(1, 0)", x.messenger(1, 0), 60);
        Check.due(15, "bottle(1, 4)", x.bottle(1, 4), 1);
        Check.due(15, "bottle(1, 5)", x.bottle(1, 5), 0);
        Check.due(15, "bottle(1, 6)", x.bottle(1, 6), Check.NONE);
        x.pay(-60);
        Check.due(15, "count(14)", x.count(14), 2);
        x.takeOff(1);
        Check.due(15, "undo() of takeOff", x.undo(), 2);
        Check.due(15, "bottle(1, 0)", x.bottle(1, 0), 40);
        Check.due(15, "undo() of pay", x.undo(), 1);
        Check.due(15, "count(14)", x.count(14), 0);
        Check.due(15, "count(9)", x.count(9), 2);
    }

    private static void keepAndRestore() {
        MessengerCasts x = new MessengerCasts();
        Check.due(17, "restore(), no snapshot", x.restore(), Check.NONE);
        Check.due(16, "keep()", x.keep(), 0);
        x.clamp(true);
        x.pay(9);
        Check.due(16, "count(17)", x.count(17), 2);
        Check.due(17, "restore()", x.restore(), 0);
        Check.due(17, "count(1)", x.count(1), 0);
        x.clamp(false);
        x.pay(7);
        x.clamp(true);
        Check.due(16, "keep() in place of the one that was", x.keep(), 2);
        x.pay(-7);
        x.takeOff(1);
        x.takeOff(0);
        Check.due(17, "count(5)", x.count(5), 0);
        Check.due(17, "restore()", x.restore(), 2);
        Check.due(17, "count(1)", x.count(1), 7);
        Check.due(17, "bottle(1, 4)", x.bottle(1, 4), 1);
        Check.due(17, "bottle(0, 4)", x.bottle(0, 4), 0);
        Check.due(17, "restore(): it stays", x.restore(), 2);
    }

    private static void restoreIsAnAct() {
        MessengerCasts x = new MessengerCasts();
        x.pay(5);
        x.keep();
        x.pay(6);
        Check.due(17, "count(17)", x.count(17), 2);
        Check.due(17, "restore()", x.restore(), 0);
        Check.due(17, "count(17)", x.count(17), 3);
        Check.due(17, "restore(), nothing changes", x.restore(), 0);
        Check.due(17, "count(17)", x.count(17), 4);
        Check.due(15, "undo()", x.undo(), 3);
        Check.due(15, "count(1)", x.count(1), 5);
        Check.due(15, "undo()", x.undo(), 2);
        Check.due(15, "count(1)", x.count(1), 11);
        Check.due(15, "undo()", x.undo(), 1);
        Check.due(15, "count(1)", x.count(1), 5);
        Check.due(17, "restore() after undo", x.restore(), 0);
        Check.due(17, "count(17)", x.count(17), 2);
        // Full history: the oldest is dropped for restore() too.
        x.pay(1);
        x.pay(1);
        x.restore();
        Check.due(17, "count(17)", x.count(17), 4);
        Check.due(17, "undo()", x.undo(), 3);
        Check.due(17, "count(1)", x.count(1), 7);
    }

    private static void snapshotStaysAsItWas() {
        MessengerCasts x = Check.after("m;+40;b;+20;!;.1;/1");
        x.setWater(5, 5, 5);
        x.set(0, 5);
        x.set(1, 5);
        x.keep();
        x.set(1, 999);
        x.set(0, 6);
        x.setWater(5, 6, 6);
        x.setSlope(2);
        x.pass(99);
        x.send();
        x.weight(true);
        x.clearText();
        x.restore();
        int[] counts = {1, 60, 1, 1, 0, 2, 2, 0, 0, 1, 1, 0, 0, 0, 0, 5, 5, 4, 0};
        for (int i = 0; i < counts.length; i++) {
            Check.due(17, "count(" + i + ")", x.count(i), counts[i]);
        }
        Check.due(17, "layer(5, 0)", x.layer(5, 0), 5);
        Check.due(17, "layer(5, 1)", x.layer(5, 1), 5);
        Check.due(17, "messenger(0, 0)", x.messenger(0, 0), 55);
        Check.due(17, "bottle(0, 4)", x.bottle(0, 4), 1);
        Check.due(17, "bottle(1, 3)", x.bottle(1, 3), 0);
        x.pass(99);
        x.restore();
        Check.due(17, "bottle(1, 3) once more", x.bottle(1, 3), 0);
        Check.due(17, "count(0) once more", x.count(0), 1);
    }

    private static final int ACTS = 11;

    private static int act(MessengerCasts x, int kind) {
        switch (kind) {
            case 0: return x.pay(6);
            case 1: return x.setSlope(2);
            case 2: return x.weight(true);
            case 3: return x.clamp(true);
            case 4: return x.takeOff(0);
            case 5: return x.send();
            case 6: return x.pass(3);
            case 7: return x.setWater(4, 44, 44);
            case 8: return x.set(0, 44);
            case 9: return x.perform();
            default: return x.restore();
        }
    }

    /** The state that is recorded is the one just before the act, not an older one. */
    private static void undoOfEachAct() {
        for (int kind = 0; kind < ACTS; kind++) {
            MessengerCasts x = Check.after("+30;b;-20;!");
            x.keep();
            Check.write(x, "+5;.5");
            x.setSlope(1);
            int[] before = told(x);
            Check.due(15, "act " + kind, act(x, kind) >= 0 ? 1 : 0, 1);
            Check.due(15, "count(17) behind the act " + kind, x.count(17), 3);
            same("the act " + kind, told(x), before, false);
            Check.due(15, "undo() of the act " + kind, x.undo(), 2);
            same("undo() of the act " + kind, told(x), before, true);
        }
    }

    /** What is told of three bottles, three messengers, the water, and all counts but those of no state. */
    private static int[] told(MessengerCasts x) {
        int[] row = new int[95];
        int n = 0;
        for (int i = 0; i < 3; i++) {
            for (int j = 0; j <= 13; j++) {
                row[n++] = x.bottle(i, j);
            }
            row[n++] = x.messenger(i, 0);
        }
        for (int i = 0; i < 10; i++) {
            row[n++] = x.layer(i, 0);
            row[n++] = x.layer(i, 1);
            row[n++] = x.layer(i, 3);
        }
        for (int i = 0; i <= 16; i++) {
            row[n++] = x.count(i);
        }
        row[n++] = x.worst();
        row[n++] = x.quietIn();
        row[n++] = x.shutIn(0);
        return row;
    }

    private static void same(String behind, int[] got, int[] want, boolean isDue) {
        boolean isSame = true;
        for (int i = 0; i < want.length; i++) {
            if (isDue) {
                Check.due(15, "what is told, place " + i + ", behind " + behind, got[i], want[i]);
            }
            isSame = isSame && got[i] == want[i];
        }
        Check.due(15, "all the same behind " + behind, isSame ? 1 : 0, isDue ? 1 : 0);
    }

    private static void allIsBroughtBack() {
        // One shut by the jerk, one by a messenger; let loose, stopped, gone and taken back are all there.
        MessengerCasts x = Check.after("+10;!;.2;+10;b;+130;b;+30;m;+210;!;.1;!;.43;!;-1");
        x.setWater(2, 33, 44);
        x.set(0, 3);
        x.pass(2);
        x.send();
        int[] some = {10, 11, 12, 13, 14};
        for (int what : some) {
            Check.due(15, "count(" + what + ") is not 0", x.count(what) > 0 ? 1 : 0, 1);
        }
        Check.due(15, "bottle(0, 13)", x.bottle(0, 13), 1);
        Check.due(15, "bottle(2, 3)", x.bottle(2, 3), 1);
        int[] before = told(x);
        x.keep();
        Check.perform(x, "-389;/1;.5");
        x.takeOff(2);
        x.takeOff(1);
        x.clamp(true);
        x.undo();
        x.undo();
        x.undo();
        x.undo();
        same("four times undo()", told(x), before, true);
        x.pay(-389);
        x.takeOff(1);
        x.weight(true);
        x.clamp(true);
        x.restore();
        same("restore()", told(x), before, true);
    }
}
