/** Promises 1 to 4 and 21: a new object, pay, setSlope, weight, depth. */
public final class CableTest {
    public static void main(String[] args) {
        newObject();
        payBounds();
        payTakesMessengersBack();
        payJerks();
        jerkIsJudgedBehindIt();
        jerkShutsOneAfterTheOther();
        slope();
        weight();
        weightCountsAtMostSix();
        depth();
        Check.finish("CableTest");
    }

    private static void newObject() {
        MessengerCasts x = new MessengerCasts();
        int[] counts = {0, 0, 0, 0, 0, 0, 0, 0, 0, 0, 0, 0, 0, 0, 0, 20, 200, 0, 0};
        for (int i = 0; i < counts.length; i++) {
            Check.due(1, "count(" + i + ")", x.count(i), counts[i]);
        }
        for (int i = 0; i < 10; i++) {
            Check.due(1, "layer(" + i + ", 0)", x.layer(i, 0), 200 - 20 * i);
            Check.due(1, "layer(" + i + ", 1)", x.layer(i, 1), 340 + i);
            Check.due(1, "layer(" + i + ", 2)", x.layer(i, 2), 0);
            Check.due(1, "layer(" + i + ", 3)", x.layer(i, 3), 0);
        }
        Check.due(1, "bottle(0, 0)", x.bottle(0, 0), Check.UNKNOWN);
        Check.due(1, "messenger(0, 0)", x.messenger(0, 0), Check.NONE);
        Check.due(1, "reason(0)", x.reason(0), Check.UNKNOWN);
        Check.due(1, "shutIn(0)", x.shutIn(0), Check.UNKNOWN);
        Check.due(1, "quietIn()", x.quietIn(), 0);
        Check.due(1, "worst()", x.worst(), Check.NONE);
        Check.due(1, "stopped(0)", x.stopped(0), Check.NONE);
        Check.due(1, "undo()", x.undo(), Check.NONE);
        Check.due(1, "restore()", x.restore(), Check.NONE);
        Check.due(1, "weight(false)", x.weight(false), Check.NONE);
        Check.due(1, "count(17)", x.count(17), 0);
    }

    private static void payBounds() {
        MessengerCasts x = new MessengerCasts();
        int[] bad = {0, 1000, -1000, Integer.MAX_VALUE, Integer.MIN_VALUE};
        for (int metres : bad) {
            Check.due(2, "pay(" + metres + ")", x.pay(metres), Check.BAD_VALUE);
        }
        Check.due(2, "pay(-1) of nothing", x.pay(-1), Check.NOT_POSSIBLE);
        Check.due(2, "pay(-999) of nothing", x.pay(-999), Check.NOT_POSSIBLE);
        Check.due(2, "count(17)", x.count(17), 0);
        Check.due(2, "pay(999)", x.pay(999), 0);
        Check.due(2, "count(1)", x.count(1), 999);
        Check.due(2, "count(17)", x.count(17), 1);
        Check.due(2, "pay(1) beyond", x.pay(1), Check.FULL);
        Check.due(2, "pay(0)", x.pay(0), Check.BAD_VALUE);
        Check.due(2, "pay(-999)", x.pay(-999), 0);
        Check.due(2, "count(1)", x.count(1), 0);
        Check.due(2, "pay(1)", x.pay(1), 0);
        Check.due(2, "pay(999) beyond", x.pay(999), Check.FULL);
        Check.due(2, "pay(-2)", x.pay(-2), Check.NOT_POSSIBLE);
        Check.due(2, "count(1)", x.count(1), 1);
        Check.due(2, "count(17)", x.count(17), 3);
    }

    private static void payTakesMessengersBack() {
        MessengerCasts x = Check.after("+50;!;.1;!");
        Check.due(2, "pay(-4)", x.pay(-4), 1);
        Check.due(2, "messenger(0, 0) keeps its mark", x.messenger(0, 0), 45);
        Check.due(2, "pay(-1), the mark is what is paid out", x.pay(-1), 0);
        Check.due(2, "count(9)", x.count(9), 1);
        Check.due(2, "pay(-1)", x.pay(-1), 1);
        Check.due(2, "count(9)", x.count(9), 0);
        Check.due(2, "count(14)", x.count(14), 2);
        Check.due(2, "pay(10)", x.pay(10), 0);
        Check.due(2, "count(14)", x.count(14), 2);
        MessengerCasts y = Check.after("+50;!;+5;!;!;.1");
        Check.due(2, "pay(20)", y.pay(20), 0);
        Check.due(2, "messenger(0, 0) keeps its mark", y.messenger(0, 0), 45);
        Check.due(2, "messenger(2, 0) keeps its mark", y.messenger(2, 0), 50);
        Check.due(2, "messenger(2, 1)", y.messenger(2, 1), 25);
        Check.due(2, "pay(-29)", y.pay(-29), 2);
        Check.due(2, "messenger(0, 0)", y.messenger(0, 0), 45);
        Check.due(2, "pay(-46)", y.pay(-46), 1);
    }

    private static void payJerks() {
        MessengerCasts x = Check.after(".7;m;+200");
        Check.due(2, "bottle(0, 3) after 200 metres", x.bottle(0, 3), 0);
        Check.due(2, "pay(201)", x.pay(201), 0);
        int[] due = {0, 401, 401, 1, 1, 0, 7, 120, 160, 344, 400, 401, 0, 1};
        for (int i = 0; i < due.length; i++) {
            Check.due(2, "bottle(0, " + i + ") after the jerk", x.bottle(0, i), due[i]);
        }
        Check.due(2, "count(11): it lets none loose", x.count(11), 0);
        Check.due(2, "count(9)", x.count(9), 0);
        MessengerCasts y = Check.after("b;+100;/2");
        y.set(1, 50);
        Check.due(2, "pay(-50)", y.pay(-50), 0);
        Check.due(2, "bottle(0, 3) after 50 metres", y.bottle(0, 3), 0);
        Check.due(2, "pay(60)", y.pay(60), 0);
        Check.due(2, "bottle(0, 13)", y.bottle(0, 13), 1);
        Check.due(2, "bottle(0, 6), no second passed", y.bottle(0, 6), 0);
        Check.due(2, "bottle(0, 8)", y.bottle(0, 8), 190);
        Check.due(2, "bottle(0, 7)", y.bottle(0, 7), 180);
        Check.due(2, "bottle(0, 11)", y.bottle(0, 11), 110);
        Check.due(2, "a jerk without a bottle", Check.after("").pay(999), 0);
    }

    private static void jerkIsJudgedBehindIt() {
        MessengerCasts x = Check.after("+100;b;+150");
        x.set(1, 149);
        Check.due(2, "pay(-150), out of the water", x.pay(-150), 0);
        Check.due(2, "bottle(0, 3)", x.bottle(0, 3), 0);
        Check.due(2, "pay(150), into the water", x.pay(150), 0);
        Check.due(2, "bottle(0, 3)", x.bottle(0, 3), 1);
        Check.due(2, "bottle(0, 11)", x.bottle(0, 11), 150);
        MessengerCasts y = Check.after("b;+200;+100");
        y.set(1, 1);
        Check.due(2, "pay(-2)", y.pay(-2), 0);
        Check.due(2, "bottle(0, 11)", y.bottle(0, 11), 298);
        Check.due(2, "bottle(0, 9)", y.bottle(0, 9), 342);
    }

    private static void jerkShutsOneAfterTheOther() {
        MessengerCasts x = Check.after("b;+10;b;+10;b");
        x.set(1, 10);
        for (int i = 0; i < 3; i++) {
            Check.due(2, "pay(11)", x.pay(11), 0);
            for (int j = 0; j < 3; j++) {
                Check.due(2, "bottle(" + j + ", 13)", x.bottle(j, 13), j <= i ? 1 : 0);
            }
        }
        Check.due(2, "bottle(2, 11)", x.bottle(2, 11), 33);
        Check.due(2, "pay(11), all are shut", x.pay(11), 0);
        Check.due(2, "bottle(0, 11)", x.bottle(0, 11), 31);
    }

    private static void slope() {
        MessengerCasts x = new MessengerCasts();
        Check.due(3, "setSlope(0)", x.setSlope(0), Check.NONE);
        Check.due(3, "setSlope(-1)", x.setSlope(-1), Check.BAD_VALUE);
        Check.due(3, "setSlope(7)", x.setSlope(7), Check.BAD_VALUE);
        Check.due(3, "count(17)", x.count(17), 0);
        Check.due(3, "setSlope(6)", x.setSlope(6), 0);
        Check.due(3, "setSlope(6)", x.setSlope(6), Check.NONE);
        Check.due(3, "setSlope(7)", x.setSlope(7), Check.BAD_VALUE);
        Check.due(3, "setSlope(3)", x.setSlope(3), 6);
        Check.due(3, "count(2)", x.count(2), 3);
        Check.due(3, "count(3)", x.count(3), 3);
        Check.due(3, "count(17)", x.count(17), 2);
        Check.due(3, "setSlope(0)", x.setSlope(0), 3);
        int[] marks = {95, 96, 97, 98, 99, 99, 100};
        for (int i = 0; i <= 6; i++) {
            MessengerCasts y = Check.after("+100;!;/" + i + ";.1");
            Check.due(3, "messenger(0, 0) with the slope " + i, y.messenger(0, 0), marks[i]);
        }
    }

    private static void weight() {
        MessengerCasts x = new MessengerCasts();
        Check.due(4, "weight(false)", x.weight(false), Check.NONE);
        Check.due(4, "weight(true)", x.weight(true), 2);
        Check.due(4, "weight(true)", x.weight(true), Check.NONE);
        Check.due(4, "count(4)", x.count(4), 1);
        Check.due(4, "weight(false)", x.weight(false), 0);
        Check.due(4, "count(4)", x.count(4), 0);
        Check.due(4, "count(17)", x.count(17), 2);
        x.pay(1);
        Check.due(4, "weight(false), never lost", x.weight(false), Check.NONE);
        Check.due(4, "weight(true) while paid out", x.weight(true), 2);
        Check.due(4, "weight(true)", x.weight(true), Check.NONE);
        Check.due(4, "weight(false) while paid out", x.weight(false), Check.NOT_POSSIBLE);
        Check.due(4, "count(4)", x.count(4), 1);
        Check.due(4, "count(17)", x.count(17), 4);
        x.pay(-1);
        Check.due(4, "weight(false)", x.weight(false), 0);
    }

    private static void weightCountsAtMostSix() {
        int[] counted = {2, 3, 4, 5, 6, 6, 6};
        for (int i = 0; i <= 6; i++) {
            MessengerCasts x = Check.after("b;+100;/" + i);
            Check.due(4, "weight(true) with the slope " + i, x.weight(true), counted[i]);
            Check.due(4, "count(2)", x.count(2), i);
            Check.due(4, "count(3)", x.count(3), counted[i]);
            Check.due(4, "bottle(0, 2)", x.bottle(0, 2), x.depth(100, counted[i]));
        }
        MessengerCasts y = Check.after("+100;!");
        y.weight(true);
        y.pass(1);
        Check.due(4, "messenger(0, 0), slower without the weight", y.messenger(0, 0), 97);
        y.setSlope(4);
        y.pass(5);
        Check.due(4, "messenger(0, 0) sticks", y.messenger(0, 0), 97);
        MessengerCasts z = Check.after("/4");
        z.weight(true);
        Check.due(4, "weight(false) answers the slope as it counts", z.weight(false), 4);
    }

    private static void depth() {
        MessengerCasts x = Check.after("+10;/5");
        int[] deepest = {999, 984, 939, 865, 765, 642, 499};
        int[] at100 = {100, 98, 94, 86, 76, 64, 50};
        for (int i = 0; i <= 6; i++) {
            Check.due(21, "depth(999, " + i + ")", x.depth(999, i), deepest[i]);
            Check.due(21, "depth(100, " + i + ")", x.depth(100, i), at100[i]);
            Check.due(21, "depth(0, " + i + ")", x.depth(0, i), 0);
        }
        Check.due(21, "depth(1, 0)", x.depth(1, 0), 1);
        Check.due(21, "depth(1, 1)", x.depth(1, 1), 0);
        Check.due(21, "depth(-1, 0)", x.depth(-1, 0), Check.BAD_VALUE);
        Check.due(21, "depth(1000, 0)", x.depth(1000, 0), Check.BAD_VALUE);
        Check.due(21, "depth(0, -1)", x.depth(0, -1), Check.BAD_VALUE);
        Check.due(21, "depth(0, 7)", x.depth(0, 7), Check.BAD_VALUE);
        Check.due(21, "depth(MAX, 0)", x.depth(Integer.MAX_VALUE, 0), Check.BAD_VALUE);
        Check.due(21, "depth(0, MIN)", x.depth(0, Integer.MIN_VALUE), Check.BAD_VALUE);
    }
}
