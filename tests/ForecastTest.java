/** Promises 22 to 24: reason, shutIn, quietIn; what they tell must come true. */
public final class ForecastTest {
    public static void main(String[] args) {
        reasons();
        reasonOrder();
        reasonStopped();
        shutIn();
        shutInChain();
        quietIn();
        nothingIsChanged();
        comesTrue();
        Check.finish("ForecastTest");
    }

    private static void told(String start, int bottle, int reason, int seconds) {
        MessengerCasts x = Check.after(start);
        Check.due(22, "reason(" + bottle + ") after " + start, x.reason(bottle), reason);
        Check.due(23, "shutIn(" + bottle + ") after " + start, x.shutIn(bottle), seconds);
    }

    private static void reasons() {
        told("b;+10;!", 0, 0, 2);
        told("b;+10;!;.2", 0, 1, Check.NONE);
        told("+5;b", 0, 2, Check.NONE);
        told("+5;b;-5", 0, 2, Check.NONE);
        told("b;+10;!;/6", 0, 3, Check.NONE);
        told("b;+10", 0, 4, Check.NONE);
        told("b;+10;b;+10;!", 0, 5, Check.NONE);
        MessengerCasts x = Check.after("b");
        Check.due(22, "reason(-1)", x.reason(-1), Check.UNKNOWN);
        Check.due(22, "reason(1)", x.reason(1), Check.UNKNOWN);
        Check.due(22, "reason(MAX)", x.reason(Integer.MAX_VALUE), Check.UNKNOWN);
        Check.due(23, "shutIn(-1)", x.shutIn(-1), Check.UNKNOWN);
        Check.due(23, "shutIn(1)", x.shutIn(1), Check.UNKNOWN);
        Check.due(23, "shutIn(MIN)", x.shutIn(Integer.MIN_VALUE), Check.UNKNOWN);
    }

    private static void reasonOrder() {
        // Shut ahead of not in the water, that ahead of sticking, that ahead of none above.
        told("b;+10;!;.2;/6;-10", 0, 1, Check.NONE);
        told("+5;b;/6", 0, 2, Check.NONE);
        told("b;+10;/6", 0, 3, Check.NONE);
        MessengerCasts x = Check.after("b;+10;!;/4");
        x.weight(true);
        Check.due(22, "reason(0), the slope counts as 6", x.reason(0), 3);
        // One at the bottle's own mark or below it is not above it.
        told("+5;b;!;+5", 0, 4, Check.NONE);
        told("+5;!;b;+5;.1", 0, 4, Check.NONE);
        told("+20;!;.1;b;+9", 0, 4, Check.NONE);
        told("+5;b;+1;!", 0, 0, 1);
    }

    private static void reasonStopped() {
        told("b;+10;m;+10;!", 0, 0, 4);
        told("b;+10;m;+10;!", 1, 0, 2);
        // The bottle between is shut, but its messenger is on the way below it.
        told("b;+10;m;+10;!;.2;!", 0, 0, 2);
        told("b;+10;m;+10;!;.2;!", 1, 1, Check.NONE);
        // Shut by the jerk, with its messenger still hanging: it stops the others.
        MessengerCasts x = Check.after("b;+20;m;+100");
        x.set(1, 1);
        x.pay(-2);
        Check.due(22, "reason(0)", x.reason(0), 1);
        x.pay(-2);
        Check.due(22, "bottle(1, 13)", x.bottle(1, 13), 1);
        MessengerCasts y = Check.after("+20;b;+20;m;-20");
        y.set(1, 1);
        y.pay(2);
        Check.due(22, "reason(0)", y.reason(0), 1);
        // Two bottles without messengers: only the upper one is struck.
        told("b;+10;b;+10;!;.1;!", 1, 0, 1);
        told("b;+10;b;+10;!;.1;!", 0, 5, Check.NONE);
        told("m;+10;m;+10;b;+10;!;!", 1, 5, Check.NONE);
        told("m;+10;m;+10;b;+10;!;!", 0, 5, Check.NONE);
    }

    private static void shutIn() {
        int[] seconds = {20, 25, 34, 50, 100, 100};
        for (int i = 0; i < seconds.length; i++) {
            told("b;+100;!;/" + i, 0, 0, seconds[i]);
        }
        told("b;+1;!", 0, 0, 1);
        told("b;+5;!", 0, 0, 1);
        told("b;+6;!", 0, 0, 2);
        told("+50;b;+101;!;.3", 0, 0, 18);
        MessengerCasts x = new MessengerCasts();
        x.set(1, 999);
        Check.perform(x, "b;+999;!;/5");
        Check.due(23, "shutIn(0), the longest way", x.shutIn(0), 999);
        Check.due(22, "reason(0)", x.reason(0), 0);
        Check.due(24, "quietIn()", x.quietIn(), 999);
    }

    private static void shutInChain() {
        MessengerCasts x = Check.after("m;+12;m;+13;m;+14;m;+15;!");
        // Each goes on from its bottle in the next second: 3, then 3, 3, 3.
        int[] due = {12, 9, 6, 3};
        for (int i = 0; i < 4; i++) {
            Check.due(23, "shutIn(" + i + ")", x.shutIn(i), due[i]);
        }
        Check.due(24, "quietIn()", x.quietIn(), 13);
        x.pass(4);
        for (int i = 0; i < 3; i++) {
            Check.due(23, "shutIn(" + i + ") 4 seconds on", x.shutIn(i), due[i] - 4);
        }
        Check.due(23, "shutIn(3), shut", x.shutIn(3), Check.NONE);
        Check.due(24, "quietIn()", x.quietIn(), 9);
    }

    private static void quietIn() {
        MessengerCasts x = Check.after("+50");
        Check.due(24, "quietIn(), none", x.quietIn(), 0);
        x.setSlope(6);
        Check.due(24, "quietIn(), none that could stick", x.quietIn(), 0);
        x.send();
        Check.due(24, "quietIn(), it sticks", x.quietIn(), Check.NONE);
        x.setSlope(0);
        Check.due(24, "quietIn()", x.quietIn(), 10);
        x.pass(1);
        x.send();
        Check.due(24, "quietIn(), the later one", x.quietIn(), 10);
        x.pass(9);
        Check.due(24, "quietIn()", x.quietIn(), 1);
        x.pass(1);
        Check.due(24, "quietIn()", x.quietIn(), 0);
        Check.due(24, "quietIn(), stopped at a bottle", Check.after("+20;b;+20;!").quietIn(), 4);
        Check.due(24, "quietIn(), at mark nought", Check.after("m;+5;!;.1").quietIn(), 1);
        MessengerCasts y = Check.after("+50;!;/4");
        y.weight(true);
        Check.due(24, "quietIn(), the slope counts as 6", y.quietIn(), Check.NONE);
    }

    private static void nothingIsChanged() {
        MessengerCasts x = Check.after("m;+12;m;+13;!;/2");
        x.reason(0);
        x.shutIn(0);
        x.quietIn();
        x.worst();
        int[] counts = {0, 25, 2, 2, 0, 2, 2, 0, 0, 1, 1, 0, 0, 0, 0, 20, 200, 1, 16};
        for (int i = 0; i < counts.length; i++) {
            Check.due(23, "count(" + i + ")", x.count(i), counts[i]);
        }
        Check.due(23, "messenger(0, 0)", x.messenger(0, 0), 25);
        Check.due(23, "bottle(1, 3)", x.bottle(1, 3), 0);
        Check.due(23, "bottle(1, 4)", x.bottle(1, 4), 1);
    }

    private static void comesTrue() {
        String[] starts = {"m;+17;b;+23;m;+9;m;+31;!;.1;!;.3;!", "b;+5;m;+7;m;+200;m;+50;!;!;.9;!;/3",
            "m;+9;m;+9;m;+9;m;+9;m;+9;m;+9;m;+9;!;/4", "+8;m;+8;b;+8;m;-12;!;+11;!;/1"};
        for (String start : starts) {
            MessengerCasts x = Check.after(start);
            for (int i = 0; i < x.count(5); i++) {
                MessengerCasts y = Check.after(start);
                int told = y.shutIn(i);
                Check.due(22, "reason(" + i + ") after " + start, y.reason(i) == 0 ? 1 : 0, told > 0 ? 1 : 0);
                if (told > 1) {
                    y.pass(told - 1);
                    Check.due(23, "bottle(" + i + ", 3) a second ahead", y.bottle(i, 3), 0);
                }
                y.pass(told > 0 ? 1 : 999);
                Check.due(23, "bottle(" + i + ", 3) after " + start, y.bottle(i, 3), told > 0 ? 1 : 0);
            }
            int quiet = x.quietIn();
            x.pass(quiet - 1);
            Check.due(24, "count(9) a second ahead", x.count(9) > 0 ? 1 : 0, 1);
            x.pass(1);
            Check.due(24, "count(9)", x.count(9), 0);
        }
    }
}
