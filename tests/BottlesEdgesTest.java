/** The boundary cases of promises 5, 6, 18 and 25, each sentence in a method of its own. */
public final class BottlesEdgesTest {
    private static final int NONE = Check.NONE;

    public static void main(String[] args) {
        promise5AtMostTen();
        promise5NotNearerThanFive();
        promise5BetweenTwo();
        promise5AtTheEndsOfTheCable();
        promise5RanksByRisingMarks();
        promise5OpenWithOrWithoutMessenger();
        promise5OpenInThePlaceOfAShutOne();
        promise6NotInTheWater();
        promise6Unknown();
        promise6OthersMoveUp();
        promise6RoomForOthers();
        promise6ShutOnes();
        promise18Bottles();
        promise18WhatFromNoughtTo13();
        promise18NoneIfItIsOpen();
        promise18MetreNoughtOutOfTheWater();
        promise18Struck();
        promise18FirstSecondIsOne();
        promise18ThermometersByTheDepth();
        promise18ThermometersRoundedDown();
        promise18ColdestAndWarmest();
        promise18Doubtful();
        promise18DoubtfulSettingAtItsEnds();
        promise18ByAJerk();
        promise25NoneIfNoneIsShut();
        promise25OfSeveralTheLowest();
        promise25TheMost();
        Check.finish("BottlesEdgesTest");
    }

    /** A bottle at the mark 0 that the jerk shuts with so many metres at this slope. */
    private static MessengerCasts jerkedAt(int metre, int slope) {
        MessengerCasts x = new MessengerCasts();
        x.clamp(false);
        if (slope > 0) {
            x.setSlope(slope);
        }
        x.set(1, 1);
        if (metre > 1) {
            x.pay(metre);
        } else {
            x.set(1, 999);
            x.pay(9);
            x.set(1, 1);
            x.pay(metre - 9);
        }
        return x;
    }

    /** "There are at most 10 bottles"; "FULL if there are 10". */
    private static void promise5AtMostTen() {
        MessengerCasts x = new MessengerCasts();
        for (int i = 0; i < 10; i++) {
            Check.due(5, "clamp(true), " + i + " are there", x.clamp(true), i);
            Check.due(5, "count(5)", x.count(5), i + 1);
            x.pay(10);
        }
        Check.due(5, "clamp(true), 10 are there", x.clamp(true), Check.FULL);
        Check.due(5, "clamp(false), 10 are there", x.clamp(false), Check.FULL);
        Check.due(5, "count(5)", x.count(5), 10);
        x.pay(-10);
        Check.due(6, "takeOff(9)", x.takeOff(9), 9);
        Check.due(5, "clamp(false), 9 are there", x.clamp(false), 9);
        Check.due(5, "clamp(false), 10 are there", x.clamp(false), Check.FULL);
    }

    /** "No two bottles have marks nearer than 5 to each other." */
    private static void promise5NotNearerThanFive() {
        for (int d = -12; d <= 12; d++) {
            MessengerCasts x = Check.after("+20;b");
            if (d != 0) {
                x.pay(d);
            }
            int due = Math.abs(d) < 5 ? Check.NOT_POSSIBLE : d < 0 ? 0 : 1;
            Check.due(5, "clamp(false), " + d + " from one", x.clamp(false), due);
            Check.due(5, "count(5)", x.count(5), Math.abs(d) < 5 ? 1 : 2);
        }
        // Shut ones keep their distance, too; those that were taken off do not.
        MessengerCasts y = Check.after("b;+4;!;.1");
        Check.due(5, "clamp(true), 4 above a shut one", y.clamp(true), Check.NOT_POSSIBLE);
        y.pay(1);
        Check.due(5, "clamp(true), 5 above a shut one", y.clamp(true), 1);
        y.pay(-5);
        y.takeOff(0);
        y.pay(1);
        Check.due(5, "clamp(true), 4 below one", y.clamp(true), Check.NOT_POSSIBLE);
        y.pay(-1);
        Check.due(5, "clamp(true) in its place", y.clamp(true), 0);
    }

    private static void promise5BetweenTwo() {
        for (int gap = 5; gap <= 12; gap++) {
            for (int place = 1; place < gap; place++) {
                MessengerCasts x = Check.after("+20;b;+" + gap + ";b");
                x.pay(place - gap);
                int due = place >= 5 && gap - place >= 5 ? 1 : Check.NOT_POSSIBLE;
                Check.due(5, "clamp(false) at " + place + " of " + gap, x.clamp(false), due);
            }
        }
    }

    /** "0 to 999" are the marks that there are. */
    private static void promise5AtTheEndsOfTheCable() {
        MessengerCasts x = new MessengerCasts();
        Check.due(5, "clamp(false) at 0", x.clamp(false), 0);
        x.set(1, 999);
        x.pay(999);
        Check.due(5, "clamp(true) at 999", x.clamp(true), 1);
        Check.due(5, "bottle(0, 0)", x.bottle(0, 0), 0);
        Check.due(5, "bottle(1, 0)", x.bottle(1, 0), 999);
        Check.due(5, "bottle(0, 1)", x.bottle(0, 1), 999);
        Check.due(5, "bottle(1, 1)", x.bottle(1, 1), 0);
        Check.due(5, "count(6)", x.count(6), 1);
        x.pay(-5);
        Check.due(5, "clamp(true) at 994", x.clamp(true), 1);
        Check.due(6, "takeOff(2) at 999", x.takeOff(2), 2);
        Check.due(6, "takeOff(1) at 994", x.takeOff(1), 1);
        x.pay(-994);
        Check.due(6, "takeOff(0) at 0", x.takeOff(0), 0);
    }

    /** "Told by their ranks, from 0, by rising marks"; "returns its rank". */
    private static void promise5RanksByRisingMarks() {
        int[] marks = {50, 20, 80, 0, 35, 999, 65, 900, 10, 100};
        int[] ranks = {0, 0, 2, 0, 2, 5, 4, 6, 1, 7};
        int[] sorted = {0, 10, 20, 35, 50, 65, 80, 100, 900, 999};
        int[] hangs = {0, 1, 0, 1, 0, 1, 0, 1, 1, 0};
        MessengerCasts x = new MessengerCasts();
        x.set(1, 999);
        int paid = 0;
        for (int i = 0; i < marks.length; i++) {
            x.pay(marks[i] - paid);
            paid = marks[i];
            Check.due(5, "clamp at " + marks[i], x.clamp(i >= 4 && i != 5), ranks[i]);
        }
        for (int i = 0; i < sorted.length; i++) {
            Check.due(5, "bottle(" + i + ", 0)", x.bottle(i, 0), sorted[i]);
            Check.due(5, "bottle(" + i + ", 4)", x.bottle(i, 4), hangs[i]);
        }
    }

    /** "It is open as it is clamped; a messenger can hang below it." */
    private static void promise5OpenWithOrWithoutMessenger() {
        for (int hangs = 0; hangs <= 1; hangs++) {
            MessengerCasts x = Check.after("+30;!;.1");
            x.clamp(hangs == 1);
            int[] due = {30, 0, 0, 0, hangs, 0, NONE, NONE, NONE, NONE, NONE, NONE, NONE, 0};
            for (int i = 0; i < due.length; i++) {
                Check.due(5, "bottle(0, " + i + ")", x.bottle(0, i), due[i]);
            }
            Check.due(5, "count(9), none is let loose by it", x.count(9), 1);
            Check.due(5, "count(7)", x.count(7), 0);
        }
    }

    /** "It is open as it is clamped": nothing is left of those that were taken off, wherever they were. */
    private static void promise5OpenInThePlaceOfAShutOne() {
        for (int taken = 1; taken <= 3; taken++) {
            for (int lowest = 0; lowest <= 1; lowest++) {
                // At 0 one shut by the jerk and struck, at 201 one shut and struck again, at 221 an open one.
                MessengerCasts x = Check.after("m;+201;!;.41;m;+10;!;!;.2;+10;m");
                int[] shut = {1, 1, 0};
                int[] struck = {1, 2, 0};
                for (int i = 0; i < 3; i++) {
                    Check.due(18, "bottle(" + i + ", 3)", x.bottle(i, 3), shut[i]);
                    Check.due(18, "bottle(" + i + ", 5)", x.bottle(i, 5), struck[i]);
                }
                x.set(1, 999);
                x.pay(-221);
                for (int i = 0; i < taken; i++) {
                    Check.due(6, "takeOff", x.takeOff(lowest == 1 ? 0 : 2 - i), 2 - i);
                }
                x.pay(50);
                int rank = lowest == 1 || taken == 3 ? 0 : 1;
                Check.due(5, "clamp(false), " + taken + " were taken off", x.clamp(false), rank);
                int[] due = {50, 0, 0, 0, 0, 0, NONE, NONE, NONE, NONE, NONE, NONE, NONE, 0};
                for (int i = 0; i < due.length; i++) {
                    Check.due(5, "bottle(" + rank + ", " + i + ") of a fresh one", x.bottle(rank, i), due[i]);
                }
                Check.due(26, "count(5)", x.count(5), 4 - taken);
                x.undo();
                x.undo();
                x.undo();
                Check.due(15, "count(5) behind undo()", x.count(5), 4 - taken);
                // The last rank there is then that of the open one, or of the one that was taken off last.
                int last = lowest == 1 ? 2 : 3 - taken;
                Check.due(15, "bottle(" + (3 - taken) + ", 5)", x.bottle(3 - taken, 5), struck[last]);
            }
        }
    }

    /** "It can be taken off as long as it is not in the water." */
    private static void promise6NotInTheWater() {
        for (int d = -6; d <= 6; d++) {
            MessengerCasts x = Check.after("+20;b");
            if (d != 0) {
                x.pay(d);
            }
            Check.due(6, "takeOff(0), " + d + " below the water", x.takeOff(0), d > 0 ? Check.NOT_POSSIBLE : 0);
            Check.due(6, "count(5)", x.count(5), d > 0 ? 1 : 0);
        }
        MessengerCasts y = Scenes.tenBottles().play();
        for (int i = 0; i < 9; i++) {
            Check.due(6, "takeOff(" + i + ") in the water", y.takeOff(i), Check.NOT_POSSIBLE);
        }
        Check.due(6, "takeOff(9) at the water", y.takeOff(9), 9);
    }

    private static void promise6Unknown() {
        int[] far = {-1, Integer.MIN_VALUE, Integer.MAX_VALUE, -10, 1 << 16, 1 << 30};
        for (int bottles = 0; bottles <= 10; bottles++) {
            MessengerCasts x = new MessengerCasts();
            for (int i = 0; i < bottles; i++) {
                x.pay(5);
                x.clamp(false);
            }
            if (bottles > 0) {
                x.pay(-5 * bottles);
            }
            for (int bottle : far) {
                Check.due(6, "takeOff(" + bottle + ") of " + bottles, x.takeOff(bottle), Check.UNKNOWN);
            }
            Check.due(6, "takeOff(" + bottles + ") of as many", x.takeOff(bottles), Check.UNKNOWN);
            Check.due(6, "takeOff(" + (bottles + 1) + ")", x.takeOff(bottles + 1), Check.UNKNOWN);
            Check.due(6, "count(5)", x.count(5), bottles);
            if (bottles > 0) {
                Check.due(6, "takeOff(the last)", x.takeOff(bottles - 1), bottles - 1);
                Check.due(6, "takeOff(the last) again", x.takeOff(bottles - 1), Check.UNKNOWN);
            }
        }
    }

    private static void promise6OthersMoveUp() {
        for (int taken = 0; taken < 10; taken++) {
            MessengerCasts x = Scenes.tenBottles().play();
            x.pay(-45);
            Check.due(6, "takeOff(" + taken + ") of ten", x.takeOff(taken), 9);
            for (int i = 0; i < 9; i++) {
                int was = i < taken ? i : i + 1;
                Check.due(6, "bottle(" + i + ", 0)", x.bottle(i, 0), 5 * was);
                Check.due(6, "bottle(" + i + ", 4)", x.bottle(i, 4), was % 2);
            }
            Check.due(6, "bottle(9, 0)", x.bottle(9, 0), Check.UNKNOWN);
        }
    }

    /** From so many bottles one is taken off, and others are clamped until there are ten. */
    private static void promise6RoomForOthers() {
        for (int bottles = 1; bottles <= 10; bottles++) {
            for (int taken = 0; taken < bottles; taken++) {
                MessengerCasts x = new MessengerCasts();
                for (int i = 0; i < bottles; i++) {
                    x.clamp(i == taken);
                    x.pay(5);
                }
                x.pay(-5 * bottles);
                Check.due(6, "takeOff(" + taken + ") of " + bottles, x.takeOff(taken), bottles - 1);
                x.pay(50);
                for (int i = bottles - 1; i < 10; i++) {
                    Check.due(5, "clamp(true)", x.clamp(true), i);
                    x.pay(6);
                }
                Check.due(5, "clamp(true) of an eleventh", x.clamp(true), Check.FULL);
                for (int i = 0; i < 10; i++) {
                    int mark = i >= bottles - 1 ? 50 + 6 * (i - bottles + 1) : i < taken ? 5 * i : 5 * i + 5;
                    Check.due(6, "bottle(" + i + ", 0)", x.bottle(i, 0), mark);
                    Check.due(6, "bottle(" + i + ", 4)", x.bottle(i, 4), i >= bottles - 1 ? 1 : 0);
                }
            }
        }
    }

    /** What a shut one tells goes with it; a shut one is taken off out of the water alone. */
    private static void promise6ShutOnes() {
        MessengerCasts x = Check.after("b;+20;m;+30;!;.6");
        Check.due(6, "takeOff(1), shut and in the water", x.takeOff(1), Check.NOT_POSSIBLE);
        x.pay(-30);
        Check.due(6, "takeOff(0) in the water", x.takeOff(0), Check.NOT_POSSIBLE);
        Check.due(6, "takeOff(1) at the water", x.takeOff(1), 1);
        Check.due(26, "count(7)", x.count(7), 0);
        x.undo();
        x.pay(-20);
        Check.due(6, "takeOff(0)", x.takeOff(0), 1);
        int[] due = {20, 0, 0, 1, 0, 1, 6, 200, 203, 340, 30, 30, 0, 0};
        for (int i = 0; i < due.length; i++) {
            Check.due(6, "bottle(0, " + i + ") of the one that is left", x.bottle(0, i), due[i]);
        }
        Check.due(26, "count(12), the accounts stay", x.count(12), 1);
        Check.due(26, "count(11)", x.count(11), 1);
    }

    private static void promise18Bottles() {
        int[] far = {-1, Integer.MIN_VALUE, Integer.MAX_VALUE, -10, 1 << 16};
        for (int bottles = 0; bottles <= 10; bottles += 5) {
            MessengerCasts x = new MessengerCasts();
            for (int i = 0; i < bottles; i++) {
                x.clamp(false);
                x.pay(5);
            }
            for (int what = 0; what <= 13; what++) {
                for (int bottle : far) {
                    Check.due(18, "bottle(" + bottle + ", " + what + ")", x.bottle(bottle, what), Check.UNKNOWN);
                }
                String call = "bottle(" + bottles + ", " + what + ") of as many";
                Check.due(18, call, x.bottle(bottles, what), Check.UNKNOWN);
            }
            if (bottles > 0) {
                Check.due(18, "bottle(0, 0)", x.bottle(0, 0), 0);
                Check.due(18, "bottle(the last, 0)", x.bottle(bottles - 1, 0), 5 * bottles - 5);
            }
        }
    }

    private static void promise18WhatFromNoughtTo13() {
        int[] far = {-1, 14, -14, 15, Integer.MAX_VALUE, Integer.MIN_VALUE};
        for (MessengerCasts x : new MessengerCasts[] {Check.after("m"), Check.after("m;+300")}) {
            for (int what : far) {
                Check.due(18, "bottle(0, " + what + ")", x.bottle(0, what), Check.BAD_VALUE);
            }
            Check.due(18, "bottle(0, 0)", x.bottle(0, 0), 0);
            Check.due(18, "bottle(0, 13)", x.bottle(0, 13), x.count(7));
        }
    }

    /** "6 to 12 NONE if it is open", and none else. */
    private static void promise18NoneIfItIsOpen() {
        for (Scene scene : new Scene[] {Scene.NEW.cast("m"), Scene.NEW.cast("m;+100"), Scene.NEW.cast("+9;m;-9")}) {
            MessengerCasts x = scene.play();
            for (int what = 0; what <= 13; what++) {
                boolean isNone = x.bottle(0, what) == NONE;
                Check.due(18, "bottle(0, " + what + ") is NONE", isNone ? 1 : 0, what >= 6 && what <= 12 ? 1 : 0);
            }
        }
        MessengerCasts y = jerkedAt(1, 0);
        for (int what = 0; what <= 13; what++) {
            Check.due(18, "bottle(0, " + what + ") of a shut one is NONE", y.bottle(0, what) == NONE ? 1 : 0, 0);
        }
    }

    /** "Its metre (0 if it is not in the water)". */
    private static void promise18MetreNoughtOutOfTheWater() {
        for (int slope = 0; slope <= 6; slope += 6) {
            for (int d = -20; d <= 20; d++) {
                MessengerCasts x = Check.after("+20;b;/" + slope);
                if (d != 0) {
                    x.pay(d);
                }
                int metre = Math.max(0, d);
                Check.due(18, "bottle(0, 1), " + d + " below the water", x.bottle(0, 1), metre);
                Check.due(18, "bottle(0, 2)", x.bottle(0, 2), slope == 0 ? metre : metre / 2);
                Check.due(18, "bottle(0, 0)", x.bottle(0, 0), 20);
            }
        }
    }

    /** "How often it was struck": the first, by which it is shut, and those behind it. */
    private static void promise18Struck() {
        MessengerCasts x = Check.after("m;+5");
        for (int i = 0; i < 5; i++) {
            Check.due(18, "bottle(0, 5)", x.bottle(0, 5), i);
            x.send();
            x.pass(2);
        }
        Check.due(18, "bottle(0, 5)", x.bottle(0, 5), 5);
        Check.due(18, "bottle(0, 6), that of the first", x.bottle(0, 6), 1);
        Check.due(18, "bottle(0, 5), by a jerk", jerkedAt(300, 0).bottle(0, 5), 0);
    }

    /** "The first second that passes is 1". */
    private static void promise18FirstSecondIsOne() {
        for (int seconds = 1; seconds <= 12; seconds++) {
            for (int ahead = 0; ahead <= 2; ahead += 2) {
                MessengerCasts x = Check.after("b");
                if (ahead > 0) {
                    x.pass(ahead);
                }
                x.pay(5 * seconds);
                x.send();
                Check.due(18, "pass(" + seconds + ")", x.pass(seconds), 1);
                Check.due(18, "bottle(0, 6)", x.bottle(0, 6), ahead + seconds);
                x.pass(30);
                Check.due(18, "bottle(0, 6) later", x.bottle(0, 6), ahead + seconds);
            }
        }
    }

    /** "At a depth there is the layer of the depth divided by 100, rounded down, but at most 9." */
    private static void promise18ThermometersByTheDepth() {
        int[] metres = {1, 2, 99, 100, 101, 199, 200, 299, 300, 399, 400, 499, 500, 599, 600, 699, 700, 799, 800, 899,
            900, 901, 998, 999};
        for (int slope = 0; slope <= 6; slope++) {
            for (int metre : metres) {
                MessengerCasts x = jerkedAt(metre, slope);
                int depth = x.depth(metre, slope);
                int layer = depth / 100;
                String at = " at the metre " + metre + ", slope " + slope;
                Check.due(18, "bottle(0, 2)" + at, x.bottle(0, 2), depth);
                Check.due(18, "bottle(0, 7)" + at, x.bottle(0, 7), 200 - 20 * layer);
                Check.due(18, "bottle(0, 8)" + at, x.bottle(0, 8), 200 - 20 * layer + depth / 10);
                Check.due(18, "bottle(0, 9)" + at, x.bottle(0, 9), 340 + layer);
                Check.due(18, "bottle(0, 10)" + at, x.bottle(0, 10), depth / 10 * 10);
                Check.due(18, "bottle(0, 11)" + at, x.bottle(0, 11), metre);
                Check.due(18, "bottle(0, 12)" + at, x.bottle(0, 12), metre - depth / 10 * 10 > 20 ? 1 : 0);
                Check.due(20, "layer(" + layer + ", 3)" + at, x.layer(layer, 3), 1);
            }
        }
    }

    /** "The depth divided by 10, rounded down", "ten times what the bare one tells above the guarded one". */
    private static void promise18ThermometersRoundedDown() {
        int[][] rows = {{1, 0}, {5, 0}, {9, 0}, {10, 10}, {11, 10}, {15, 10}, {19, 10}, {20, 20}, {99, 90}, {100, 100},
            {109, 100}, {110, 110}, {989, 980}, {990, 990}, {999, 990}};
        for (int[] row : rows) {
            MessengerCasts x = jerkedAt(row[0], 0);
            Check.due(18, "bottle(0, 10) at " + row[0], x.bottle(0, 10), row[1]);
            Check.due(18, "bottle(0, 8) at " + row[0], x.bottle(0, 8), x.bottle(0, 7) + row[1] / 10);
        }
    }

    /** The warmth "-20 to 300", the salt "0 to 420": the depth by the pair does not hang on them. */
    private static void promise18ColdestAndWarmest() {
        int[][] waters = {{-20, 0}, {-1, 1}, {0, 0}, {300, 420}};
        for (int[] water : waters) {
            for (int metre : new int[] {9, 10, 95}) {
                MessengerCasts x = Check.after("b;+" + metre + ";!");
                x.setWater(0, water[0], water[1]);
                x.pass(metre);
                Check.due(18, "bottle(0, 7)", x.bottle(0, 7), water[0]);
                Check.due(18, "bottle(0, 8)", x.bottle(0, 8), water[0] + metre / 10);
                Check.due(18, "bottle(0, 9)", x.bottle(0, 9), water[1]);
                Check.due(18, "bottle(0, 10)", x.bottle(0, 10), metre / 10 * 10);
            }
        }
    }

    /** "Doubtful if this depth and its metre as it shut differ by more than the setting 0 tells now." */
    private static void promise18Doubtful() {
        for (int slope = 1; slope <= 6; slope++) {
            MessengerCasts x = jerkedAt(250, slope);
            int off = x.bottle(0, 11) - x.bottle(0, 10);
            x.set(0, off);
            Check.due(18, "bottle(0, 12), off by as much", x.bottle(0, 12), 0);
            Check.due(26, "count(8)", x.count(8), 0);
            x.set(0, off - 1);
            Check.due(18, "bottle(0, 12), off by more", x.bottle(0, 12), 1);
            Check.due(26, "count(8)", x.count(8), 1);
            x.set(0, off + 1);
            Check.due(18, "bottle(0, 12), off by less", x.bottle(0, 12), 0);
        }
        // 20 at first: 120 metres at the slope 3 are 103 deep, so 20 off; 121 are 104 deep, so 21 off.
        Check.due(18, "bottle(0, 12), 20 off", jerkedAt(120, 3).bottle(0, 12), 0);
        Check.due(18, "bottle(0, 12), 21 off", jerkedAt(121, 3).bottle(0, 12), 1);
        // "As it shut": what the cable does behind it tells nothing.
        MessengerCasts y = jerkedAt(120, 3);
        y.set(1, 999);
        y.pay(500);
        y.setSlope(6);
        Check.due(18, "bottle(0, 12), later deeper", y.bottle(0, 12), 0);
    }

    /** The setting 0: "0 to 999". */
    private static void promise18DoubtfulSettingAtItsEnds() {
        MessengerCasts x = jerkedAt(10, 0);
        x.set(0, 0);
        Check.due(18, "bottle(0, 12), 0 off of 0", x.bottle(0, 12), 0);
        MessengerCasts y = jerkedAt(11, 0);
        y.set(0, 0);
        Check.due(18, "bottle(0, 12), 1 off of 0", y.bottle(0, 12), 1);
        y.set(0, 1);
        Check.due(18, "bottle(0, 12), 1 off of 1", y.bottle(0, 12), 0);
        MessengerCasts z = jerkedAt(999, 6);
        Check.due(18, "bottle(0, 12), 509 off of 20", z.bottle(0, 12), 1);
        z.set(0, 508);
        Check.due(18, "bottle(0, 12), 509 off of 508", z.bottle(0, 12), 1);
        z.set(0, 509);
        Check.due(18, "bottle(0, 12), 509 off of 509", z.bottle(0, 12), 0);
        z.set(0, 999);
        Check.due(18, "bottle(0, 12), 509 off of 999", z.bottle(0, 12), 0);
    }

    /** "Whether it was shut by a jerk": not if a messenger was first, and still if one comes later. */
    private static void promise18ByAJerk() {
        MessengerCasts x = Check.after("b;+5;!;.1");
        x.pay(300);
        Check.due(18, "bottle(0, 13), a messenger was first", x.bottle(0, 13), 0);
        Check.due(18, "bottle(0, 11)", x.bottle(0, 11), 5);
        MessengerCasts y = Check.after("b;+300;!;.60");
        Check.due(18, "bottle(0, 13), the jerk was first", y.bottle(0, 13), 1);
        Check.due(18, "bottle(0, 6)", y.bottle(0, 6), 0);
        Check.due(18, "bottle(0, 5)", y.bottle(0, 5), 1);
        Check.due(18, "bottle(0, 13) of an open one", Check.after("b;+200").bottle(0, 13), 0);
    }

    private static void promise25NoneIfNoneIsShut() {
        Check.due(25, "worst(), no bottle", new MessengerCasts().worst(), NONE);
        Check.due(25, "worst(), ten open ones", Scenes.tenBottles().play().worst(), NONE);
        Check.due(25, "worst(), one is shut, 0 off", jerkedAt(10, 0).worst(), 0);
        MessengerCasts x = Check.after("b;+10;b;+10;b;+10;!;.2");
        Check.due(25, "worst(), the highest alone is shut", x.worst(), 2);
        x.pay(-10);
        x.takeOff(2);
        Check.due(25, "worst(), it was taken off", x.worst(), NONE);
        x.undo();
        Check.due(25, "worst(), it is there again", x.worst(), 2);
    }

    /** Bottles at the marks 0, 10 and 20 to 90 that jerks shut with these metres, one behind the other. */
    private static MessengerCasts jerked(int... metres) {
        MessengerCasts x = new MessengerCasts();
        x.set(1, 999);
        int paid = 0;
        for (int i = 0; i < metres.length; i++) {
            if (i > 0) {
                x.pay(10 * i - paid);
                paid = 10 * i;
            }
            x.clamp(false);
        }
        x.pay(500 - paid);
        for (int i = 0; i < metres.length; i++) {
            x.set(1, 1);
            x.pay(10 * i + metres[i] - 500);
            x.set(1, 999);
            x.pay(500 - 10 * i - metres[i]);
            Check.due(18, "bottle(" + i + ", 11)", x.bottle(i, 11), metres[i]);
        }
        return x;
    }

    /** "Of several the lowest". */
    private static void promise25OfSeveralTheLowest() {
        Check.due(25, "worst() of 0, 0, 0 off", jerked(100, 80, 60).worst(), 0);
        Check.due(25, "worst() of 0, 5, 5 off", jerked(100, 75, 55).worst(), 1);
        Check.due(25, "worst() of 5, 0, 5 off", jerked(105, 80, 55).worst(), 0);
        Check.due(25, "worst() of 5, 5, 0 off", jerked(105, 85, 60).worst(), 0);
        Check.due(25, "worst() of ten, 9 off", jerked(159, 149, 139, 129, 119, 109, 99, 89, 79, 69).worst(), 0);
        Check.due(25, "worst() of ten, the last two 9 off",
            jerked(158, 148, 138, 128, 118, 108, 98, 88, 79, 69).worst(), 8);
    }

    private static void promise25TheMost() {
        Check.due(25, "worst() of 1, 2, 3 off", jerked(101, 82, 63).worst(), 2);
        Check.due(25, "worst() of 3, 2, 1 off", jerked(103, 82, 61).worst(), 0);
        Check.due(25, "worst() of 2, 3, 1 off", jerked(102, 83, 61).worst(), 1);
        Check.due(25, "worst() of 0, 1, 0 off", jerked(100, 81, 60).worst(), 1);
        Check.due(25, "worst() of ten, the last 9 off",
            jerked(158, 148, 138, 128, 118, 108, 98, 88, 78, 69).worst(), 9);
        // Off by more than all settings tell, and whatever they tell.
        MessengerCasts x = jerkedAt(999, 6);
        x.set(0, 999);
        Check.due(25, "worst(), not doubtful", x.worst(), 0);
    }
}
