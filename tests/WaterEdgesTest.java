/** The boundary cases of promises 9, 10 and 20, and of "WATER", each sentence in a method of its own. */
public final class WaterEdgesTest {
    private static final int MIN = Integer.MIN_VALUE;
    private static final int MAX = Integer.MAX_VALUE;

    public static void main(String[] args) {
        promise9LayersFromNoughtTo9();
        promise9WarmthFromMinus20To300();
        promise9SaltFromNoughtTo420();
        promise9NoneIfBothAreSo();
        promise9AnswersThePreviousWarmth();
        promise9ShutBottlesKeepWhatTheyHave();
        promise10Which();
        promise10Setting0FromNoughtTo999();
        promise10Setting1From1To999();
        promise10NoneIfItIsSo();
        promise20Layers();
        promise20What();
        promise20OpenOnesByTheirDepth();
        promise20AslantByTheirDepth();
        promise20NotInTheWater();
        promise20ShutOnesByTheirDepthThen();
        promise20EmptyAndFull();
        Check.finish("WaterEdgesTest");
    }

    private static MessengerCasts bottleAt(int metre, int slope) {
        MessengerCasts x = Check.after("b;/" + slope);
        x.set(1, 999);
        if (metre > 0) {
            x.pay(metre);
        }
        return x;
    }

    /** "10 layers, 0 to 9". */
    private static void promise9LayersFromNoughtTo9() {
        for (int layer : new int[] {-1, 10, MIN, MAX, -10, 1 << 16}) {
            MessengerCasts x = new MessengerCasts();
            Check.due(9, "setWater(" + layer + ", 7, 7)", x.setWater(layer, 7, 7), Check.UNKNOWN);
        }
        for (int layer = 0; layer <= 9; layer++) {
            MessengerCasts x = new MessengerCasts();
            Check.due(9, "setWater(" + layer + ", 7, 8)", x.setWater(layer, 7, 8), 200 - 20 * layer);
            for (int i = 0; i <= 9; i++) {
                Check.due(9, "layer(" + i + ", 0)", x.layer(i, 0), i == layer ? 7 : 200 - 20 * i);
                Check.due(9, "layer(" + i + ", 1)", x.layer(i, 1), i == layer ? 8 : 340 + i);
            }
        }
    }

    private static void promise9WarmthFromMinus20To300() {
        for (int layer = 0; layer <= 9; layer += 9) {
            MessengerCasts x = new MessengerCasts();
            for (int bad : new int[] {-21, 301, MIN, MAX, -22, 302}) {
                Check.due(9, "setWater(.., " + bad + ", 0)", x.setWater(layer, bad, 0), Check.BAD_VALUE);
                Check.due(9, "layer(" + layer + ", 0)", x.layer(layer, 0), 200 - 20 * layer);
                Check.due(9, "layer(" + layer + ", 1)", x.layer(layer, 1), 340 + layer);
            }
            int was = 200 - 20 * layer;
            for (int fine : new int[] {-20, 300, -19, 299, 0, -1}) {
                Check.due(9, "setWater(.., " + fine + ", 0)", x.setWater(layer, fine, 0), was);
                Check.due(9, "layer(" + layer + ", 0)", x.layer(layer, 0), fine);
                was = fine;
            }
        }
    }

    private static void promise9SaltFromNoughtTo420() {
        for (int layer = 0; layer <= 9; layer += 9) {
            MessengerCasts x = new MessengerCasts();
            for (int bad : new int[] {-1, 421, MIN, MAX, -2, 422}) {
                Check.due(9, "setWater(.., 5, " + bad + ")", x.setWater(layer, 5, bad), Check.BAD_VALUE);
                Check.due(9, "layer(" + layer + ", 0)", x.layer(layer, 0), 200 - 20 * layer);
                Check.due(9, "layer(" + layer + ", 1)", x.layer(layer, 1), 340 + layer);
            }
            x.setWater(layer, 5, 7);
            for (int fine : new int[] {0, 420, 1, 419}) {
                Check.due(9, "setWater(.., 5, " + fine + ")", x.setWater(layer, 5, fine), 5);
                Check.due(9, "layer(" + layer + ", 1)", x.layer(layer, 1), fine);
            }
        }
    }

    /** "NONE if both are so already". */
    private static void promise9NoneIfBothAreSo() {
        for (int layer = 0; layer <= 9; layer++) {
            MessengerCasts x = new MessengerCasts();
            int warmth = 200 - 20 * layer;
            int salt = 340 + layer;
            Check.due(9, "setWater, both so at first", x.setWater(layer, warmth, salt), Check.NONE);
            Check.due(9, "count(17)", x.count(17), 0);
            Check.due(9, "setWater, another salt", x.setWater(layer, warmth, salt + 1), warmth);
            Check.due(9, "setWater, another warmth", x.setWater(layer, warmth + 1, salt + 1), warmth);
            Check.due(9, "setWater, both so", x.setWater(layer, warmth + 1, salt + 1), Check.NONE);
            Check.due(9, "count(17)", x.count(17), 2);
        }
    }

    /** Also one that is below 0, which is no error. */
    private static void promise9AnswersThePreviousWarmth() {
        MessengerCasts x = new MessengerCasts();
        int was = 160;
        for (int warmth : new int[] {-20, -1, 0, 300, -20}) {
            Check.due(9, "setWater(2, " + warmth + ", 9)", x.setWater(2, warmth, 9), was);
            was = warmth;
        }
        Check.due(9, "count(17), each is recorded", x.count(17), 4);
        Check.due(9, "undo()", x.undo(), 3);
        Check.due(9, "layer(2, 0)", x.layer(2, 0), 300);
    }

    private static void promise9ShutBottlesKeepWhatTheyHave() {
        MessengerCasts x = Check.after("b;+5;b;+5;!;.1");
        x.setWater(0, -20, 420);
        Check.due(9, "bottle(1, 7)", x.bottle(1, 7), 200);
        Check.due(9, "bottle(1, 8)", x.bottle(1, 8), 200);
        Check.due(9, "bottle(1, 9)", x.bottle(1, 9), 340);
        x.set(1, 4);
        x.pay(10);
        Check.due(9, "bottle(0, 7), shut later", x.bottle(0, 7), -20);
        Check.due(9, "bottle(0, 8)", x.bottle(0, 8), -18);
        Check.due(9, "bottle(0, 9)", x.bottle(0, 9), 420);
    }

    private static void promise10Which() {
        MessengerCasts x = new MessengerCasts();
        for (int which : new int[] {-1, 2, MIN, MAX, 3, 1 << 16}) {
            for (int value : new int[] {5, 0, 999}) {
                Check.due(10, "set(" + which + ", " + value + ")", x.set(which, value), Check.UNKNOWN);
            }
        }
        Check.due(10, "count(15)", x.count(15), 20);
        Check.due(10, "count(16)", x.count(16), 200);
        Check.due(10, "set(0, 5)", x.set(0, 5), 20);
        Check.due(10, "count(16)", x.count(16), 200);
        Check.due(10, "set(1, 6)", x.set(1, 6), 200);
        Check.due(10, "count(15)", x.count(15), 5);
        Check.due(10, "count(16)", x.count(16), 6);
    }

    /** "The setting 0 tells now (0 to 999; 20 at first)". */
    private static void promise10Setting0FromNoughtTo999() {
        MessengerCasts x = new MessengerCasts();
        int was = 20;
        for (int value : new int[] {0, 1, 998, 999}) {
            for (int bad : new int[] {-1, 1000, MIN, MAX, -999}) {
                Check.due(10, "set(0, " + bad + ")", x.set(0, bad), Check.BAD_VALUE);
                Check.due(10, "count(15)", x.count(15), was);
            }
            Check.due(10, "set(0, " + value + ")", x.set(0, value), was);
            Check.due(10, "count(15)", x.count(15), value);
            was = value;
        }
    }

    /** "The setting 1 tells (1 to 999; 200 at first)". */
    private static void promise10Setting1From1To999() {
        MessengerCasts x = new MessengerCasts();
        int was = 200;
        for (int value : new int[] {1, 2, 998, 999}) {
            for (int bad : new int[] {0, -1, 1000, MIN, MAX}) {
                Check.due(10, "set(1, " + bad + ")", x.set(1, bad), Check.BAD_VALUE);
                Check.due(10, "count(16)", x.count(16), was);
            }
            Check.due(10, "set(1, " + value + ")", x.set(1, value), was);
            Check.due(10, "count(16)", x.count(16), value);
            was = value;
        }
    }

    private static void promise10NoneIfItIsSo() {
        MessengerCasts x = new MessengerCasts();
        Check.due(10, "set(0, 20)", x.set(0, 20), Check.NONE);
        Check.due(10, "set(1, 200)", x.set(1, 200), Check.NONE);
        Check.due(10, "set(0, 200), that of the other", x.set(0, 200), 20);
        Check.due(10, "set(1, 20), that of the other", x.set(1, 20), 200);
        for (int value : new int[] {1, 999}) {
            x.set(0, value);
            x.set(1, value);
            Check.due(10, "set(0, " + value + ") again", x.set(0, value), Check.NONE);
            Check.due(10, "set(1, " + value + ") again", x.set(1, value), Check.NONE);
        }
        x.set(0, 0);
        Check.due(10, "set(0, 0) again", x.set(0, 0), Check.NONE);
    }

    private static void promise20Layers() {
        MessengerCasts x = Scenes.rich().play();
        for (int layer : new int[] {-1, 10, MIN, MAX, -9, 1 << 16}) {
            for (int what = 0; what <= 3; what++) {
                Check.due(20, "layer(" + layer + ", " + what + ")", x.layer(layer, what), Check.UNKNOWN);
            }
        }
        Check.due(20, "layer(0, 0)", x.layer(0, 0), 200);
        Check.due(20, "layer(9, 0)", x.layer(9, 0), 20);
        Check.due(20, "layer(9, 1)", x.layer(9, 1), 349);
    }

    private static void promise20What() {
        MessengerCasts x = Scenes.rich().play();
        for (int layer : new int[] {0, 1, 9}) {
            for (int what : new int[] {-1, 4, MIN, MAX, 5}) {
                Check.due(20, "layer(" + layer + ", " + what + ")", x.layer(layer, what), Check.BAD_VALUE);
            }
        }
        Check.due(20, "layer(1, 0)", x.layer(1, 0), 55);
        Check.due(20, "layer(1, 3)", x.layer(1, 3), 2);
    }

    private static void onlyIn(String where, MessengerCasts x, int what, int layer) {
        for (int i = 0; i <= 9; i++) {
            Check.due(20, "layer(" + i + ", " + what + ") " + where, x.layer(i, what), i == layer ? 1 : 0);
        }
    }

    /** "100 metres each: .. the depth divided by 100, rounded down". */
    private static void promise20OpenOnesByTheirDepth() {
        for (int layer = 0; layer <= 9; layer++) {
            for (int metre : new int[] {100 * layer, 100 * layer + 1, 100 * layer + 50, 100 * layer + 99}) {
                if (metre > 0) {
                    MessengerCasts x = bottleAt(metre, 0);
                    onlyIn("open at " + metre, x, 2, layer);
                    onlyIn("open at " + metre, x, 3, -1);
                }
            }
        }
    }

    private static void promise20AslantByTheirDepth() {
        for (int slope = 1; slope <= 6; slope++) {
            for (int metre = 90; metre <= 999; metre += 101) {
                MessengerCasts x = bottleAt(metre, slope);
                onlyIn("open at " + metre + ", slope " + slope, x, 2, x.depth(metre, slope) / 100);
            }
        }
        // 199 and 200 metres at the slope 6 are 99 and 100 deep.
        onlyIn("open at 199, slope 6", bottleAt(199, 6), 2, 0);
        onlyIn("open at 200, slope 6", bottleAt(200, 6), 2, 1);
        MessengerCasts y = bottleAt(200, 4);
        onlyIn("open at 200, slope 4", y, 2, 1);
        y.weight(true);
        onlyIn("open at 200, slope 4, lost", y, 2, 1);
        y.pay(-1);
        onlyIn("open at 199, slope 4, lost", y, 2, 0);
    }

    /** "Open bottles in the water": a metre below it, at it, above it. */
    private static void promise20NotInTheWater() {
        for (int d = -3; d <= 3; d++) {
            MessengerCasts x = Check.after("+20;b");
            if (d != 0) {
                x.pay(d);
            }
            onlyIn(d + " below the water", x, 2, d > 0 ? 0 : -1);
        }
        // A metre deep and aslant it is 0 deep, and in the layer 0.
        onlyIn("a metre deep, slope 6", bottleAt(1, 6), 2, 0);
    }

    /** "Bottles that were shut in it (by their depths then)". */
    private static void promise20ShutOnesByTheirDepthThen() {
        for (int metre : new int[] {1, 99, 100, 199, 200, 899, 900, 999}) {
            MessengerCasts x = bottleAt(metre, 0);
            x.send();
            Check.due(20, "pass(999)", x.pass(999), 1);
            onlyIn("shut at " + metre, x, 3, metre / 100);
            onlyIn("shut at " + metre, x, 2, -1);
            x.setSlope(6);
            onlyIn("shut at " + metre + ", later aslant", x, 3, metre / 100);
            x.pay(-metre);
            onlyIn("shut at " + metre + ", later out of the water", x, 3, metre / 100);
            x.pay(500);
            onlyIn("shut at " + metre + ", later elsewhere", x, 3, metre / 100);
            x.pay(-500);
            x.takeOff(0);
            onlyIn("taken off", x, 3, -1);
        }
        MessengerCasts y = bottleAt(200, 6);
        y.send();
        y.setSlope(4);
        y.pass(200);
        onlyIn("shut at 200, slope 4", y, 3, 1);
        MessengerCasts z = bottleAt(199, 0);
        z.set(1, 1);
        z.setSlope(6);
        z.pay(-2);
        onlyIn("jerked at 197, slope 6", z, 3, 0);
    }

    private static void promise20EmptyAndFull() {
        MessengerCasts none = new MessengerCasts();
        onlyIn("without bottles", none, 2, -1);
        onlyIn("without bottles", none, 3, -1);
        MessengerCasts ten = Scenes.tenBottles().play();
        Check.due(20, "layer(0, 2), the tenth is at the water", ten.layer(0, 2), 9);
        ten.pay(1);
        Check.due(20, "layer(0, 2), all ten", ten.layer(0, 2), 10);
        ten.set(1, 1);
        for (int i = 0; i < 10; i++) {
            ten.pay(i % 2 == 0 ? 2 : -2);
            Check.due(20, "layer(0, 2)", ten.layer(0, 2), 9 - i);
            Check.due(20, "layer(0, 3)", ten.layer(0, 3), 1 + i);
        }
    }
}
