/** Promises 7, 8 and 19: send, pass, messenger. */
public final class MessengersTest {
    public static void main(String[] args) {
        send();
        sendFull();
        passBounds();
        passStrikes();
        passChain();
        passAtMarkNought();
        passSticks();
        passGone();
        passMany();
        passAsOneOrInParts();
        messengerOrder();
        messengerErrors();
        Check.finish("MessengersTest");
    }

    private static void send() {
        MessengerCasts x = new MessengerCasts();
        Check.due(7, "send(), nothing paid out", x.send(), Check.NOT_POSSIBLE);
        Check.due(7, "count(10)", x.count(10), 0);
        Check.due(7, "count(17)", x.count(17), 0);
        x.pay(1);
        Check.due(7, "send()", x.send(), 1);
        Check.due(7, "send()", x.send(), 2);
        Check.due(7, "messenger(1, 0)", x.messenger(1, 0), 1);
        Check.due(7, "count(9)", x.count(9), 2);
        Check.due(7, "count(10)", x.count(10), 2);
        Check.due(7, "count(17)", x.count(17), 3);
        x.pass(1);
        Check.due(7, "send() behind them", x.send(), 1);
        Check.due(7, "count(10)", x.count(10), 3);
    }

    private static void sendFull() {
        MessengerCasts x = Check.after("+10");
        for (int i = 1; i <= 12; i++) {
            Check.due(7, "send() number " + i, x.send(), i);
        }
        Check.due(7, "send() of a thirteenth", x.send(), Check.FULL);
        Check.due(7, "count(10)", x.count(10), 12);
        Check.due(7, "messenger(11, 0)", x.messenger(11, 0), 10);
        x.pay(-10);
        Check.due(7, "count(14)", x.count(14), 12);
        Check.due(7, "send(), nothing paid out", x.send(), Check.NOT_POSSIBLE);
        // Twelve at once on a bottle with a messenger: eleven stop, one is let loose.
        MessengerCasts y = Check.after("+9;m;+1");
        for (int i = 1; i <= 12; i++) {
            y.send();
        }
        Check.due(8, "pass(1)", y.pass(1), 1);
        Check.due(8, "count(9)", y.count(9), 1);
        Check.due(8, "count(12)", y.count(12), 12);
        Check.due(8, "bottle(0, 5)", y.bottle(0, 5), 12);
        // One at the mark nought stays though nothing is paid out.
        MessengerCasts z = Check.after("m;+1;!;.1;/6");
        Check.due(8, "messenger(0, 0)", z.messenger(0, 0), 0);
        Check.due(2, "pay(-1)", z.pay(-1), 0);
        Check.due(2, "count(9)", z.count(9), 1);
        Check.due(7, "send()", z.send(), Check.NOT_POSSIBLE);
    }

    private static void passBounds() {
        MessengerCasts x = new MessengerCasts();
        int[] bad = {0, -1, 1000, Integer.MAX_VALUE, Integer.MIN_VALUE};
        for (int seconds : bad) {
            Check.due(8, "pass(" + seconds + ")", x.pass(seconds), Check.BAD_VALUE);
        }
        Check.due(8, "count(17)", x.count(17), 0);
        for (int i = 0; i < 100; i++) {
            x.pass(999);
        }
        Check.due(8, "count(0)", x.count(0), 99900);
        Check.due(8, "pass(100)", x.pass(100), Check.FULL);
        Check.due(8, "pass(1000)", x.pass(1000), Check.BAD_VALUE);
        Check.due(8, "pass(98)", x.pass(98), 0);
        Check.due(8, "pass(2)", x.pass(2), Check.FULL);
        Check.due(8, "pass(1)", x.pass(1), 0);
        Check.due(8, "count(0)", x.count(0), 99999);
        Check.due(8, "pass(1)", x.pass(1), Check.FULL);
        x.clamp(false);
        x.pay(10);
        x.send();
        Check.due(23, "shutIn(0) beyond the last second", x.shutIn(0), 2);
        x.pay(300);
        Check.due(18, "bottle(0, 6)", x.bottle(0, 6), 99999);
    }

    private static void passStrikes() {
        MessengerCasts x = Check.after("+5;b;+5;!");
        Check.due(8, "pass(1), just to the bottle", x.pass(1), 1);
        Check.due(8, "count(9)", x.count(9), 0);
        Check.due(8, "count(12)", x.count(12), 1);
        Check.due(8, "count(13)", x.count(13), 0);
        MessengerCasts y = Check.after("+5;b;+6;!");
        Check.due(8, "pass(1), just not to the bottle", y.pass(1), 0);
        Check.due(8, "messenger(0, 0)", y.messenger(0, 0), 6);
        Check.due(8, "pass(1), over its mark", y.pass(1), 1);
        Check.due(8, "count(9)", y.count(9), 0);
        // A messenger at a bottle's own mark does not strike it.
        MessengerCasts z = Check.after("+5;b;!");
        z.pay(5);
        Check.due(8, "pass(1)", z.pass(1), 0);
        Check.due(8, "bottle(0, 5)", z.bottle(0, 5), 0);
        Check.due(8, "count(13)", z.count(13), 1);
        // The steps go from the mark on, so a bottle between is not passed over.
        MessengerCasts u = Check.after("b;+5;b;+3;!");
        Check.due(8, "pass(1)", u.pass(1), 1);
        Check.due(8, "bottle(1, 3)", u.bottle(1, 3), 1);
        Check.due(8, "bottle(0, 3)", u.bottle(0, 3), 0);
    }

    private static void passChain() {
        MessengerCasts x = Check.after("m;+10;m;+10;m;+10;!");
        Check.due(8, "pass(2)", x.pass(2), 1);
        Check.due(8, "messenger(0, 0), let loose", x.messenger(0, 0), 20);
        Check.due(8, "bottle(2, 4)", x.bottle(2, 4), 0);
        Check.due(8, "pass(1), from the next second on", x.pass(1), 0);
        Check.due(8, "messenger(0, 0)", x.messenger(0, 0), 15);
        Check.due(8, "pass(3)", x.pass(3), 2);
        Check.due(8, "bottle(1, 6)", x.bottle(1, 6), 4);
        Check.due(8, "bottle(0, 6)", x.bottle(0, 6), 6);
        Check.due(8, "messenger(0, 0)", x.messenger(0, 0), 0);
        Check.due(8, "pass(1)", x.pass(1), 0);
        int[] due = {7, 30, 0, 0, 0, 3, 3, 3, 0, 0, 1, 3, 3, 1, 0};
        for (int i = 0; i < due.length; i++) {
            Check.due(8, "count(" + i + ")", x.count(i), due[i]);
        }
        // One without a messenger ends the chain.
        MessengerCasts y = Check.after("m;+10;b;+10;m;+10;!");
        Check.due(8, "pass(99)", y.pass(99), 2);
        Check.due(8, "bottle(0, 3)", y.bottle(0, 3), 0);
        Check.due(8, "bottle(1, 3)", y.bottle(1, 3), 1);
        // A shut one, too: the second messenger stops at the first bottle.
        MessengerCasts z = Check.after("m;+10;m;+10;!;.2;!;.99");
        Check.due(8, "count(7)", z.count(7), 2);
        Check.due(8, "bottle(1, 5)", z.bottle(1, 5), 2);
        Check.due(8, "bottle(0, 5)", z.bottle(0, 5), 1);
        Check.due(8, "count(12)", z.count(12), 3);
        Check.due(8, "count(13)", z.count(13), 1);
    }

    private static void passAtMarkNought() {
        MessengerCasts x = Check.after("m;+3;!");
        Check.due(8, "pass(1), below 0 but a bottle is there", x.pass(1), 1);
        Check.due(8, "count(13)", x.count(13), 0);
        Check.due(8, "messenger(0, 0)", x.messenger(0, 0), 0);
        Check.due(8, "pass(1)", x.pass(1), 0);
        Check.due(8, "count(13)", x.count(13), 1);
        Check.due(8, "bottle(0, 5)", x.bottle(0, 5), 1);
    }

    private static void passSticks() {
        MessengerCasts x = Check.after("b;+10;!;/6");
        Check.due(8, "pass(999)", x.pass(999), 0);
        Check.due(8, "messenger(0, 0)", x.messenger(0, 0), 10);
        Check.due(8, "count(0)", x.count(0), 999);
        x.setSlope(5);
        Check.due(8, "pass(9)", x.pass(9), 0);
        Check.due(8, "messenger(0, 0)", x.messenger(0, 0), 1);
        Check.due(8, "pass(1)", x.pass(1), 1);
        Check.due(8, "bottle(0, 6)", x.bottle(0, 6), 1009);
        // One at the mark nought that sticks is not gone.
        MessengerCasts y = Check.after("m;+1;!;.1;/6;.9");
        Check.due(8, "count(9)", y.count(9), 1);
        y.setSlope(5);
        y.pass(1);
        Check.due(8, "count(13)", y.count(13), 1);
    }

    private static void passGone() {
        MessengerCasts x = Check.after("+10;!;.1");
        Check.due(8, "messenger(0, 0)", x.messenger(0, 0), 5);
        x.pass(1);
        Check.due(8, "count(9), its mark would be 0", x.count(9), 0);
        Check.due(8, "count(13)", x.count(13), 1);
        MessengerCasts y = Check.after("+11;!;.2");
        Check.due(8, "messenger(0, 0)", y.messenger(0, 0), 1);
        y.pass(1);
        Check.due(8, "count(13), its mark would be below 0", y.count(13), 1);
        MessengerCasts z = Check.after("+999;!;/5;.998");
        Check.due(8, "messenger(0, 0)", z.messenger(0, 0), 1);
        z.pass(1);
        Check.due(8, "count(13)", z.count(13), 1);
    }

    private static void passMany() {
        // Two at the same mark and one behind them: the first shuts, the second strikes again.
        MessengerCasts x = Check.after("m;+20;m;+10;!;!;.1;!");
        Check.due(8, "pass(1)", x.pass(1), 1);
        Check.due(8, "bottle(1, 5)", x.bottle(1, 5), 2);
        Check.due(8, "count(9)", x.count(9), 2);
        Check.due(8, "messenger(0, 0)", x.messenger(0, 0), 20);
        Check.due(8, "messenger(1, 0)", x.messenger(1, 0), 25);
        Check.due(8, "pass(1)", x.pass(1), 0);
        Check.due(8, "bottle(1, 5)", x.bottle(1, 5), 3);
        Check.due(8, "messenger(0, 0)", x.messenger(0, 0), 15);
        Check.due(8, "count(12)", x.count(12), 3);
        Check.due(8, "count(17)", x.count(17), 3);
    }

    private static void passAsOneOrInParts() {
        String start = "m;+17;b;+23;m;+9;m;+31;!;.1;!;.3;!;/3";
        MessengerCasts whole = Check.after(start);
        MessengerCasts parts = Check.after(start);
        int shut = whole.pass(60);
        int sum = 0;
        for (int i = 0; i < 60; i++) {
            sum += parts.pass(1);
        }
        Check.due(8, "pass(60)", shut, sum);
        Check.due(8, "pass(60)", shut, 3);
        for (int i = 0; i <= 14; i++) {
            Check.due(8, "count(" + i + ")", whole.count(i), parts.count(i));
        }
        for (int i = 0; i < 4; i++) {
            for (int j = 0; j <= 13; j++) {
                Check.due(8, "bottle(" + i + ", " + j + ")", whole.bottle(i, j), parts.bottle(i, j));
            }
        }
    }

    private static void messengerOrder() {
        MessengerCasts x = Check.after("+100;!;.2;!;.3;!;/4");
        int[] marks = {75, 85, 100};
        int[] depths = {19, 11, 0};
        for (int i = 0; i < 3; i++) {
            Check.due(19, "messenger(" + i + ", 0)", x.messenger(i, 0), marks[i]);
            Check.due(19, "messenger(" + i + ", 1)", x.messenger(i, 1), depths[i]);
        }
        Check.due(19, "messenger(3, 0)", x.messenger(3, 0), Check.NONE);
        // One that is let loose stands at its bottle's mark among the others.
        MessengerCasts y = Check.after("+50;m;+50;!;.9;!;.1");
        Check.due(19, "messenger(0, 0)", y.messenger(0, 0), 50);
        Check.due(19, "messenger(1, 0)", y.messenger(1, 0), 95);
        Check.due(19, "messenger(0, 1)", y.messenger(0, 1), 50);
        Check.due(19, "messenger(2, 0)", y.messenger(2, 0), Check.NONE);
    }

    private static void messengerErrors() {
        MessengerCasts x = Check.after("+10;!");
        Check.due(19, "messenger(-1, 0)", x.messenger(-1, 0), Check.BAD_VALUE);
        Check.due(19, "messenger(MIN, 0)", x.messenger(Integer.MIN_VALUE, 0), Check.BAD_VALUE);
        Check.due(19, "messenger(0, -1)", x.messenger(0, -1), Check.BAD_VALUE);
        Check.due(19, "messenger(0, 2)", x.messenger(0, 2), Check.BAD_VALUE);
        Check.due(19, "messenger(5, 2), bad first", x.messenger(5, 2), Check.BAD_VALUE);
        Check.due(19, "messenger(1, 0)", x.messenger(1, 0), Check.NONE);
        Check.due(19, "messenger(12, 1)", x.messenger(12, 1), Check.NONE);
        Check.due(19, "messenger(MAX, 0)", x.messenger(Integer.MAX_VALUE, 0), Check.NONE);
    }
}
