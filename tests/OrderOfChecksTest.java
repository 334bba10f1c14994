/**
 * "Where several errors can apply, the order of the @return line is the order of the checks." For each method
 * whose line names several: inputs to which two of them, or an error and NONE, apply.
 */
public final class OrderOfChecksTest {
    private static final int MIN = Integer.MIN_VALUE;
    private static final int MAX = Integer.MAX_VALUE;

    public static void main(String[] args) {
        promise2BadValueFirst();
        promise3BadValueThenNone();
        promise4NotPossibleThenNone();
        promise5FullFirst();
        promise6UnknownFirst();
        promise7NotPossibleOrFull();
        promise8BadValueFirst();
        promise9UnknownFirst();
        promise10UnknownFirst();
        promise13FaultFirst();
        promise14BadValueFirst();
        promise18UnknownFirst();
        promise19BadValueFirst();
        promise20UnknownFirst();
        promise23UnknownFirst();
        promiseConstants();
        Check.finish("OrderOfChecksTest");
    }

    private static MessengerCasts at(int paid) {
        MessengerCasts x = new MessengerCasts();
        if (paid > 0) {
            x.pay(paid);
        }
        return x;
    }

    /** "BAD_VALUE; NOT_POSSIBLE if less than 0 would be paid out; FULL if more than 999 would be." */
    private static void promise2BadValueFirst() {
        Check.due(2, "pay(-1000) of nothing: less than 0, too", at(0).pay(-1000), Check.BAD_VALUE);
        Check.due(2, "pay(-1000) of 999: less than 0, too", at(999).pay(-1000), Check.BAD_VALUE);
        Check.due(2, "pay(MIN) of nothing: less than 0, too", at(0).pay(MIN), Check.BAD_VALUE);
        Check.due(2, "pay(1000) of nothing: more than 999, too", at(0).pay(1000), Check.BAD_VALUE);
        Check.due(2, "pay(1000) to 999: more than 999, too", at(999).pay(1000), Check.BAD_VALUE);
        Check.due(2, "pay(MAX) to 999: more than 999, too", at(999).pay(MAX), Check.BAD_VALUE);
    }

    private static void promise3BadValueThenNone() {
        MessengerCasts x = new MessengerCasts();
        Check.due(3, "setSlope(-1)", x.setSlope(-1), Check.BAD_VALUE);
        Check.due(3, "setSlope(0)", x.setSlope(0), Check.NONE);
        x.setSlope(6);
        Check.due(3, "setSlope(7)", x.setSlope(7), Check.BAD_VALUE);
        Check.due(3, "setSlope(6)", x.setSlope(6), Check.NONE);
    }

    /** They never apply both: a lost one that is hung on is not so already. */
    private static void promise4NotPossibleThenNone() {
        MessengerCasts x = at(9);
        Check.due(4, "weight(false), it hangs and cable is out", x.weight(false), Check.NONE);
        x.weight(true);
        Check.due(4, "weight(false), it is lost and cable is out", x.weight(false), Check.NOT_POSSIBLE);
        Check.due(4, "weight(true), it is lost and cable is out", x.weight(true), Check.NONE);
    }

    /** "FULL if there are 10; NOT_POSSIBLE if another one is nearer than 5 metres." */
    private static void promise5FullFirst() {
        MessengerCasts x = Scenes.tenBottles().play();
        for (int metres : new int[] {0, 1, 4, 5, -3, -9}) {
            MessengerCasts y = metres == 0 ? x : Scenes.tenBottles().and(z -> z.pay(metres)).play();
            Check.due(5, "clamp(false) of an eleventh, " + metres + " off", y.clamp(false), Check.FULL);
            Check.due(5, "clamp(true) of an eleventh, " + metres + " off", y.clamp(true), Check.FULL);
        }
        MessengerCasts nine = Scenes.tenBottles().and(z -> z.takeOff(9)).and(z -> z.pay(-1)).play();
        Check.due(5, "clamp(false) of a tenth, near", nine.clamp(false), Check.NOT_POSSIBLE);
    }

    private static void promise6UnknownFirst() {
        MessengerCasts x = Check.after("b;+9");
        Check.due(6, "takeOff(1), the others are in the water", x.takeOff(1), Check.UNKNOWN);
        Check.due(6, "takeOff(-1), the others are in the water", x.takeOff(-1), Check.UNKNOWN);
        Check.due(6, "takeOff(0)", x.takeOff(0), Check.NOT_POSSIBLE);
    }

    /** With nothing paid out there are never 12 on their way: they are taken back. */
    private static void promise7NotPossibleOrFull() {
        MessengerCasts x = Scenes.twelveMessengers().play();
        Check.due(7, "send(), 12 are on their way", x.send(), Check.FULL);
        Check.due(2, "pay(-50)", x.pay(-50), 12);
        Check.due(7, "send(), nothing paid out", x.send(), Check.NOT_POSSIBLE);
    }

    /** "BAD_VALUE; FULL if the second would be beyond 99999." */
    private static void promise8BadValueFirst() {
        MessengerCasts x = Scenes.atSecond(99999).play();
        Check.due(8, "pass(1000) at 99999", x.pass(1000), Check.BAD_VALUE);
        Check.due(8, "pass(MAX) at 99999", x.pass(MAX), Check.BAD_VALUE);
        Check.due(8, "pass(MIN) at 99999", x.pass(MIN), Check.BAD_VALUE);
        Check.due(8, "pass(0) at 99999", x.pass(0), Check.BAD_VALUE);
        Check.due(8, "pass(100000) at the second 0", at(0).pass(100000), Check.BAD_VALUE);
        Check.due(8, "pass(999) at 99999", x.pass(999), Check.FULL);
    }

    /** "UNKNOWN; BAD_VALUE; NONE if both are so already." */
    private static void promise9UnknownFirst() {
        MessengerCasts x = new MessengerCasts();
        int[] layers = {-1, 10, MIN, MAX};
        int[] warmths = {-21, 301, MIN, MAX};
        int[] salts = {-1, 421, MIN, MAX};
        for (int i = 0; i < layers.length; i++) {
            Check.due(9, "setWater, layer and warmth", x.setWater(layers[i], warmths[i], 1), Check.UNKNOWN);
            Check.due(9, "setWater, layer and salt", x.setWater(layers[i], 1, salts[i]), Check.UNKNOWN);
            Check.due(9, "setWater, all three", x.setWater(layers[i], warmths[i], salts[i]), Check.UNKNOWN);
            Check.due(9, "setWater, salt, the warmth is so", x.setWater(0, 200, salts[i]), Check.BAD_VALUE);
            Check.due(9, "setWater, warmth, the salt is so", x.setWater(0, warmths[i], 340), Check.BAD_VALUE);
            Check.due(9, "setWater, warmth and salt", x.setWater(0, warmths[i], salts[i]), Check.BAD_VALUE);
        }
    }

    private static void promise10UnknownFirst() {
        MessengerCasts x = new MessengerCasts();
        for (int which : new int[] {-1, 2, MIN, MAX}) {
            for (int value : new int[] {-1, 0, 1000, MIN, MAX}) {
                Check.due(10, "set(" + which + ", " + value + ")", x.set(which, value), Check.UNKNOWN);
            }
            Check.due(10, "set(" + which + ", 20), as the setting 0", x.set(which, 20), Check.UNKNOWN);
            Check.due(10, "set(" + which + ", 200), as the setting 1", x.set(which, 200), Check.UNKNOWN);
        }
    }

    /** "-1100 minus the fault of the text if it has one; NOT_POSSIBLE if any is stopped." */
    private static void promise13FaultFirst() {
        String[] texts = {"-1;", "-1;x", "!;+1000", "b;b;/7", "-1;-1;-1;b5", "!x"};
        int[] faults = {3, 3, 6, 5, 10, 1};
        for (int i = 0; i < texts.length; i++) {
            MessengerCasts x = new MessengerCasts();
            String call = "perform() of " + texts[i] + ", which would stop";
            Check.due(13, call, Check.perform(x, texts[i]), -1100 - faults[i]);
            Check.due(14, "stopped(0)", x.stopped(0), Check.NONE);
        }
    }

    /** "BAD_VALUE; NONE if nothing was stopped yet." */
    private static void promise14BadValueFirst() {
        MessengerCasts x = new MessengerCasts();
        for (int what : new int[] {-1, 2, MIN, MAX}) {
            Check.due(14, "stopped(" + what + "), nothing was stopped", x.stopped(what), Check.BAD_VALUE);
        }
    }

    /** "UNKNOWN; BAD_VALUE", and NONE behind them. */
    private static void promise18UnknownFirst() {
        for (MessengerCasts x : new MessengerCasts[] {new MessengerCasts(), Check.after("b"), Check.after("b;+300")}) {
            int bottles = x.count(5);
            for (int bottle : new int[] {-1, bottles, 10, MIN, MAX}) {
                for (int what : new int[] {-1, 14, MIN, MAX}) {
                    Check.due(18, "bottle(" + bottle + ", " + what + ")", x.bottle(bottle, what), Check.UNKNOWN);
                }
                Check.due(18, "bottle(" + bottle + ", 6)", x.bottle(bottle, 6), Check.UNKNOWN);
            }
        }
    }

    /** "BAD_VALUE (rank is negative, or what); NONE if there are not so many." */
    private static void promise19BadValueFirst() {
        for (MessengerCasts x : new MessengerCasts[] {new MessengerCasts(), Check.after("+9;!")}) {
            for (int what : new int[] {-1, 2, MIN, MAX}) {
                for (int rank : new int[] {1, 12, MAX, -1, MIN}) {
                    Check.due(19, "messenger(" + rank + ", " + what + ")", x.messenger(rank, what), Check.BAD_VALUE);
                }
            }
        }
    }

    private static void promise20UnknownFirst() {
        MessengerCasts x = new MessengerCasts();
        for (int layer : new int[] {-1, 10, MIN, MAX}) {
            for (int what : new int[] {-1, 4, MIN, MAX}) {
                Check.due(20, "layer(" + layer + ", " + what + ")", x.layer(layer, what), Check.UNKNOWN);
            }
        }
    }

    private static void promise23UnknownFirst() {
        MessengerCasts x = Check.after("b;+300");
        Check.due(23, "shutIn(1), the others are shut", x.shutIn(1), Check.UNKNOWN);
        Check.due(23, "shutIn(-1), the others are shut", x.shutIn(-1), Check.UNKNOWN);
        Check.due(23, "shutIn(0)", x.shutIn(0), Check.NONE);
        Check.due(22, "reason(1), the others are shut", x.reason(1), Check.UNKNOWN);
    }

    private static void promiseConstants() {
        Check.due(1, "UNKNOWN", MessengerCasts.UNKNOWN, -1001);
        Check.due(1, "BAD_VALUE", MessengerCasts.BAD_VALUE, -1002);
        Check.due(1, "FULL", MessengerCasts.FULL, -1003);
        Check.due(1, "NOT_POSSIBLE", MessengerCasts.NOT_POSSIBLE, -1004);
        Check.due(1, "NONE", MessengerCasts.NONE, -1005);
    }
}
