/** Promises 5, 6, 18 and 25: clamp, takeOff, bottle, worst. */
public final class BottlesTest {
    public static void main(String[] args) {
        clampRanks();
        clampNearest();
        clampFull();
        takeOff();
        takeOffKeepsTheOthers();
        takeOffAndClampAgain();
        clampWhereAJerkedOneWas();
        bottleWhileOpen();
        bottleShutByMessenger();
        bottleStruckAgain();
        bottleKeepsWhatItHad();
        bottleDoubtful();
        bottleErrors();
        worst();
        Check.finish("BottlesTest");
    }

    private static void clampRanks() {
        MessengerCasts x = new MessengerCasts();
        Check.due(5, "clamp(false)", x.clamp(false), 0);
        x.pay(20);
        Check.due(5, "clamp(true)", x.clamp(true), 1);
        x.pay(-10);
        Check.due(5, "clamp(false) between two", x.clamp(false), 1);
        Check.due(5, "count(5)", x.count(5), 3);
        int[] marks = {0, 10, 20};
        int[] messengers = {0, 0, 1};
        for (int i = 0; i < 3; i++) {
            Check.due(5, "bottle(" + i + ", 0)", x.bottle(i, 0), marks[i]);
            Check.due(5, "bottle(" + i + ", 4)", x.bottle(i, 4), messengers[i]);
            Check.due(5, "bottle(" + i + ", 3)", x.bottle(i, 3), 0);
            Check.due(5, "bottle(" + i + ", 5)", x.bottle(i, 5), 0);
        }
        Check.due(5, "count(17)", x.count(17), 4);
    }

    private static void clampNearest() {
        MessengerCasts x = Check.after("+10;b");
        Check.due(5, "clamp at the same mark", x.clamp(true), Check.NOT_POSSIBLE);
        x.pay(4);
        Check.due(5, "clamp 4 above", x.clamp(false), Check.NOT_POSSIBLE);
        x.pay(-8);
        Check.due(5, "clamp 4 below", x.clamp(false), Check.NOT_POSSIBLE);
        Check.due(5, "count(5)", x.count(5), 1);
        x.pay(-1);
        Check.due(5, "clamp 5 below", x.clamp(false), 0);
        x.pay(10);
        Check.due(5, "clamp 5 above", x.clamp(false), 2);
        Check.due(5, "count(17)", x.count(17), 4);
        x.undo();
        Check.due(5, "count(5)", x.count(5), 2);
    }

    private static void clampFull() {
        MessengerCasts x = new MessengerCasts();
        for (int i = 0; i < 10; i++) {
            Check.due(5, "clamp(false) number " + i, x.clamp(false), i);
            x.pay(5);
        }
        Check.due(5, "clamp(false), 10 are there", x.clamp(false), Check.FULL);
        x.pay(-5);
        Check.due(5, "clamp(false), full ahead of near", x.clamp(false), Check.FULL);
        Check.due(5, "count(5)", x.count(5), 10);
        Check.due(5, "bottle(9, 0)", x.bottle(9, 0), 45);
        Check.due(6, "takeOff(9)", x.takeOff(9), 9);
        Check.due(5, "clamp(true) again", x.clamp(true), 9);
        Check.due(5, "bottle(9, 4)", x.bottle(9, 4), 1);
    }

    private static void takeOff() {
        MessengerCasts x = Check.after("b;+10;b");
        Check.due(6, "takeOff(-1)", x.takeOff(-1), Check.UNKNOWN);
        Check.due(6, "takeOff(2)", x.takeOff(2), Check.UNKNOWN);
        Check.due(6, "takeOff(MAX)", x.takeOff(Integer.MAX_VALUE), Check.UNKNOWN);
        Check.due(6, "takeOff(0) in the water", x.takeOff(0), Check.NOT_POSSIBLE);
        Check.due(6, "count(17)", x.count(17), 1);
        Check.due(6, "takeOff(1) at the water", x.takeOff(1), 1);
        Check.due(6, "takeOff(1) again", x.takeOff(1), Check.UNKNOWN);
        Check.due(6, "count(17)", x.count(17), 2);
        x.pay(-9);
        Check.due(6, "takeOff(0) a metre deep", x.takeOff(0), Check.NOT_POSSIBLE);
        x.pay(-1);
        Check.due(6, "takeOff(0)", x.takeOff(0), 0);
        Check.due(6, "count(5)", x.count(5), 0);
        Check.due(6, "takeOff(0)", x.takeOff(0), Check.UNKNOWN);
    }

    private static void takeOffKeepsTheOthers() {
        MessengerCasts x = Check.after("+10;m;+10;b;+10;m;+10;b;-35");
        Check.due(6, "takeOff(1) above the water", x.takeOff(1), 3);
        int[] marks = {10, 30, 40};
        int[] messengers = {1, 1, 0};
        for (int i = 0; i < 3; i++) {
            Check.due(6, "bottle(" + i + ", 0)", x.bottle(i, 0), marks[i]);
            Check.due(6, "bottle(" + i + ", 4)", x.bottle(i, 4), messengers[i]);
        }
        Check.due(6, "bottle(3, 0)", x.bottle(3, 0), Check.UNKNOWN);
        x.undo();
        Check.due(6, "bottle(1, 0) after undo", x.bottle(1, 0), 20);
        MessengerCasts y = Check.after("b;+10;!;.2");
        Check.due(6, "count(7)", y.count(7), 1);
        y.pay(-10);
        Check.due(6, "takeOff(0) shut", y.takeOff(0), 0);
        Check.due(6, "count(7)", y.count(7), 0);
        Check.due(6, "layer(0, 3)", y.layer(0, 3), 0);
        Check.due(5, "clamp(false) in its place", y.clamp(false), 0);
        Check.due(5, "bottle(0, 3): it is open", y.bottle(0, 3), 0);
        Check.due(5, "bottle(0, 5): never struck", y.bottle(0, 5), 0);
        Check.due(5, "bottle(0, 13)", y.bottle(0, 13), 0);
    }

    private static void marks(MessengerCasts x, int... marks) {
        Check.due(6, "count(5)", x.count(5), marks.length);
        for (int i = 0; i < marks.length; i++) {
            Check.due(6, "bottle(" + i + ", 0)", x.bottle(i, 0), marks[i]);
            Check.due(6, "bottle(" + i + ", 4)", x.bottle(i, 4), 0);
        }
        Check.due(6, "bottle(" + marks.length + ", 0)", x.bottle(marks.length, 0), Check.UNKNOWN);
    }

    private static void takeOffAndClampAgain() {
        MessengerCasts x = Check.after("b;+5;b;+5;b;+5;b;+5;b;+5;b;+5;b;+5;b;+5;b;+5;b;-45");
        Check.due(6, "takeOff(8)", x.takeOff(8), 9);
        marks(x, 0, 5, 10, 15, 20, 25, 30, 35, 45);
        Check.due(6, "takeOff(0), the lowest of many", x.takeOff(0), 8);
        Check.due(6, "takeOff(3)", x.takeOff(3), 7);
        Check.due(6, "takeOff(6), the highest", x.takeOff(6), 6);
        marks(x, 5, 10, 15, 25, 30, 35);
        Check.due(5, "perform()", Check.perform(x, "b;+20;b;+20;b;+20;b"), 7);
        marks(x, 0, 5, 10, 15, 20, 25, 30, 35, 40, 60);
        Check.due(5, "clamp(true)", x.clamp(true), Check.FULL);
    }

    private static void clampWhereAJerkedOneWas() {
        MessengerCasts x = Check.after("m;+201;-200;-1");
        Check.due(18, "bottle(0, 13)", x.bottle(0, 13), 1);
        Check.due(6, "takeOff(0)", x.takeOff(0), 0);
        Check.due(5, "clamp(false)", x.clamp(false), 0);
        int[] due = {0, 0, 0, 0, 0, 0, -1005, -1005, -1005, -1005, -1005, -1005, -1005, 0};
        for (int i = 0; i < due.length; i++) {
            Check.due(5, "bottle(0, " + i + ") of a fresh one", x.bottle(0, i), due[i]);
        }
    }

    private static void bottleWhileOpen() {
        MessengerCasts x = Check.after("+100;m;+150;/3");
        int[] due = {100, 150, 129, 0, 1, 0, -1005, -1005, -1005, -1005, -1005, -1005, -1005, 0};
        for (int i = 0; i < due.length; i++) {
            Check.due(18, "bottle(0, " + i + ")", x.bottle(0, i), due[i]);
        }
        x.pay(-150);
        Check.due(18, "bottle(0, 1) at the water", x.bottle(0, 1), 0);
        x.pay(-50);
        Check.due(18, "bottle(0, 0) above the water", x.bottle(0, 0), 100);
        Check.due(18, "bottle(0, 1) above the water", x.bottle(0, 1), 0);
        Check.due(18, "bottle(0, 2) above the water", x.bottle(0, 2), 0);
        x.pay(51);
        Check.due(18, "bottle(0, 1) a metre deep", x.bottle(0, 1), 1);
        Check.due(18, "bottle(0, 2) a metre deep, aslant", x.bottle(0, 2), 0);
    }

    private static void bottleShutByMessenger() {
        MessengerCasts x = Check.after("+100;m;+157;!;/2;.52");
        Check.due(18, "bottle(0, 3) a second ahead", x.bottle(0, 3), 0);
        x.pass(1);
        // 157 metres at the slope 2 are 147 deep: layer 1, 180 and 14 more.
        int[] due = {100, 157, 147, 1, 0, 1, 53, 180, 194, 341, 140, 157, 0, 0};
        for (int i = 0; i < due.length; i++) {
            Check.due(18, "bottle(0, " + i + ") shut", x.bottle(0, i), due[i]);
        }
        Check.due(18, "count(11)", x.count(11), 1);
        Check.due(18, "messenger(0, 0)", x.messenger(0, 0), 100);
    }

    private static void bottleStruckAgain() {
        MessengerCasts x = Check.after("b;+20;!;!;.4");
        Check.due(18, "bottle(0, 5)", x.bottle(0, 5), 2);
        Check.due(18, "bottle(0, 6)", x.bottle(0, 6), 4);
        x.send();
        x.pass(10);
        Check.due(18, "bottle(0, 5)", x.bottle(0, 5), 3);
        Check.due(18, "bottle(0, 6)", x.bottle(0, 6), 4);
        MessengerCasts y = Check.after("m;+300;!;.60");
        Check.due(18, "bottle(0, 13)", y.bottle(0, 13), 1);
        Check.due(18, "bottle(0, 5)", y.bottle(0, 5), 1);
        Check.due(18, "bottle(0, 4): a shut one lets none loose", y.bottle(0, 4), 1);
        Check.due(18, "bottle(0, 6)", y.bottle(0, 6), 0);
        Check.due(18, "count(11)", y.count(11), 0);
        Check.due(18, "count(12)", y.count(12), 1);
    }

    private static void bottleKeepsWhatItHad() {
        MessengerCasts x = Check.after("b;+120;!;.24");
        x.setWater(1, -20, 0);
        x.setSlope(6);
        x.pay(80);
        int[] due = {0, 200, 100, 1, 0, 1, 24, 180, 192, 341, 120, 120, 0, 0};
        for (int i = 0; i < due.length; i++) {
            Check.due(18, "bottle(0, " + i + ") later", x.bottle(0, i), due[i]);
        }
        Check.due(20, "layer(1, 3)", x.layer(1, 3), 1);
        x.pay(-200);
        Check.due(18, "bottle(0, 11) above the water", x.bottle(0, 11), 120);
        Check.due(20, "layer(1, 3)", x.layer(1, 3), 1);
    }

    private static void bottleDoubtful() {
        // 157 metres at the slope 2: 140 by the pair, so 17 off.
        MessengerCasts x = Check.after("b;+157;/2;!;.53");
        Check.due(18, "bottle(0, 12)", x.bottle(0, 12), 0);
        x.set(0, 17);
        Check.due(18, "bottle(0, 12), just not", x.bottle(0, 12), 0);
        x.set(0, 16);
        Check.due(18, "bottle(0, 12), just", x.bottle(0, 12), 1);
        Check.due(18, "count(8)", x.count(8), 1);
        x.set(0, 20);
        Check.due(18, "bottle(0, 12) tells of now", x.bottle(0, 12), 0);
    }

    private static void bottleErrors() {
        MessengerCasts x = Check.after("b");
        Check.due(18, "bottle(-1, 0)", x.bottle(-1, 0), Check.UNKNOWN);
        Check.due(18, "bottle(1, 0)", x.bottle(1, 0), Check.UNKNOWN);
        Check.due(18, "bottle(10, 0)", x.bottle(10, 0), Check.UNKNOWN);
        Check.due(18, "bottle(1, 14), unknown first", x.bottle(1, 14), Check.UNKNOWN);
        Check.due(18, "bottle(MIN, 0)", x.bottle(Integer.MIN_VALUE, 0), Check.UNKNOWN);
        Check.due(18, "bottle(0, -1)", x.bottle(0, -1), Check.BAD_VALUE);
        Check.due(18, "bottle(0, 14)", x.bottle(0, 14), Check.BAD_VALUE);
        Check.due(18, "bottle(0, MAX)", x.bottle(0, Integer.MAX_VALUE), Check.BAD_VALUE);
    }

    private static void worst() {
        // Shut at 10, 19 and 9 metres: 0, 9 and 9 off.
        MessengerCasts x = Check.after("m;+5;m;+5;b");
        Check.due(25, "worst(), all open", x.worst(), Check.NONE);
        x.pay(9);
        x.set(1, 1);
        x.pay(-9);
        Check.due(25, "bottle(0, 11)", x.bottle(0, 11), 10);
        Check.due(25, "worst(), one that is not off", x.worst(), 0);
        x.pay(14);
        Check.due(25, "bottle(1, 11)", x.bottle(1, 11), 19);
        Check.due(25, "worst()", x.worst(), 1);
        x.pay(-5);
        Check.due(25, "bottle(2, 11)", x.bottle(2, 11), 9);
        Check.due(25, "worst(), of two the lowest", x.worst(), 1);
        Check.due(25, "count(17)", x.count(17), 4);
        MessengerCasts y = Check.after("b;+999;!;/6");
        Check.due(25, "worst() aslant", y.worst(), 0);
        Check.due(25, "bottle(0, 10)", y.bottle(0, 10), 990);
        MessengerCasts z = Check.after("/6;b;+999");
        Check.due(25, "bottle(0, 10)", z.bottle(0, 10), 490);
        Check.due(25, "bottle(0, 12)", z.bottle(0, 12), 1);
    }
}
