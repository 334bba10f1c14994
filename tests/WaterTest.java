/** Promises 9, 10 and 20: setWater, set, layer. */
public final class WaterTest {
    public static void main(String[] args) {
        setWater();
        setWaterErrors();
        set();
        setErrors();
        layerOpen();
        layerShut();
        layerErrors();
        Check.finish("WaterTest");
    }

    private static void setWater() {
        MessengerCasts x = new MessengerCasts();
        Check.due(9, "setWater(3, 140, 343)", x.setWater(3, 140, 343), Check.NONE);
        Check.due(9, "count(17)", x.count(17), 0);
        Check.due(9, "setWater(3, 140, 0), the salt alone", x.setWater(3, 140, 0), 140);
        Check.due(9, "setWater(3, 300, 0), the warmth alone", x.setWater(3, 300, 0), 140);
        Check.due(9, "setWater(3, -20, 420)", x.setWater(3, -20, 420), 300);
        Check.due(9, "setWater(3, -20, 420)", x.setWater(3, -20, 420), Check.NONE);
        Check.due(9, "setWater(3, 0, 420)", x.setWater(3, 0, 420), -20);
        Check.due(9, "layer(3, 0)", x.layer(3, 0), 0);
        Check.due(9, "layer(3, 1)", x.layer(3, 1), 420);
        Check.due(9, "layer(2, 0)", x.layer(2, 0), 160);
        Check.due(9, "layer(4, 1)", x.layer(4, 1), 344);
        Check.due(9, "count(17)", x.count(17), 4);
        Check.due(9, "setWater(0, 1, 1)", x.setWater(0, 1, 1), 200);
        Check.due(9, "setWater(9, 1, 1)", x.setWater(9, 1, 1), 20);
        // What is set is what a bottle keeps.
        x.clamp(false);
        x.pay(950);
        Check.due(9, "bottle(0, 7)", x.bottle(0, 7), 1);
        Check.due(9, "bottle(0, 8)", x.bottle(0, 8), 96);
        Check.due(9, "bottle(0, 9)", x.bottle(0, 9), 1);
        Check.due(9, "bottle(0, 10)", x.bottle(0, 10), 950);
    }

    private static void setWaterErrors() {
        MessengerCasts x = new MessengerCasts();
        Check.due(9, "setWater(-1, 0, 0)", x.setWater(-1, 0, 0), Check.UNKNOWN);
        Check.due(9, "setWater(10, 0, 0)", x.setWater(10, 0, 0), Check.UNKNOWN);
        Check.due(9, "setWater(10, 999, 999)", x.setWater(10, 999, 999), Check.UNKNOWN);
        Check.due(9, "setWater(MIN, 0, 0)", x.setWater(Integer.MIN_VALUE, 0, 0), Check.UNKNOWN);
        Check.due(9, "setWater(0, -21, 0)", x.setWater(0, -21, 0), Check.BAD_VALUE);
        Check.due(9, "setWater(0, 301, 0)", x.setWater(0, 301, 0), Check.BAD_VALUE);
        Check.due(9, "setWater(0, 0, -1)", x.setWater(0, 0, -1), Check.BAD_VALUE);
        Check.due(9, "setWater(0, 0, 421)", x.setWater(0, 0, 421), Check.BAD_VALUE);
        Check.due(9, "setWater(0, 200, 421)", x.setWater(0, 200, 421), Check.BAD_VALUE);
        Check.due(9, "layer(0, 0)", x.layer(0, 0), 200);
        Check.due(9, "layer(0, 1)", x.layer(0, 1), 340);
        Check.due(9, "count(17)", x.count(17), 0);
    }

    private static void set() {
        MessengerCasts x = new MessengerCasts();
        Check.due(10, "set(0, 20)", x.set(0, 20), Check.NONE);
        Check.due(10, "set(1, 200)", x.set(1, 200), Check.NONE);
        Check.due(10, "count(17)", x.count(17), 0);
        Check.due(10, "set(0, 200)", x.set(0, 200), 20);
        Check.due(10, "set(1, 20)", x.set(1, 20), 200);
        Check.due(10, "set(0, 0)", x.set(0, 0), 200);
        Check.due(10, "set(0, 0)", x.set(0, 0), Check.NONE);
        Check.due(10, "set(0, 999)", x.set(0, 999), 0);
        Check.due(10, "set(1, 999)", x.set(1, 999), 20);
        Check.due(10, "set(1, 1)", x.set(1, 1), 999);
        Check.due(10, "count(15)", x.count(15), 999);
        Check.due(10, "count(16)", x.count(16), 1);
        Check.due(10, "count(17)", x.count(17), 4);
        // With 999 there is no jerk.
        MessengerCasts y = Check.after("b");
        y.set(1, 999);
        y.pay(999);
        Check.due(10, "bottle(0, 3)", y.bottle(0, 3), 0);
    }

    private static void setErrors() {
        MessengerCasts x = new MessengerCasts();
        Check.due(10, "set(-1, 5)", x.set(-1, 5), Check.UNKNOWN);
        Check.due(10, "set(2, 5)", x.set(2, 5), Check.UNKNOWN);
        Check.due(10, "set(2, -5)", x.set(2, -5), Check.UNKNOWN);
        Check.due(10, "set(MAX, 5)", x.set(Integer.MAX_VALUE, 5), Check.UNKNOWN);
        Check.due(10, "set(0, -1)", x.set(0, -1), Check.BAD_VALUE);
        Check.due(10, "set(0, 1000)", x.set(0, 1000), Check.BAD_VALUE);
        Check.due(10, "set(1, 0)", x.set(1, 0), Check.BAD_VALUE);
        Check.due(10, "set(1, 1000)", x.set(1, 1000), Check.BAD_VALUE);
        Check.due(10, "count(15)", x.count(15), 20);
        Check.due(10, "count(16)", x.count(16), 200);
        Check.due(10, "count(17)", x.count(17), 0);
    }

    private static void layerOpen() {
        MessengerCasts x = Check.after("b;+100;b;+5;b;+95;b;-100");
        // Metres 100, 0, and two above the water.
        Check.due(20, "layer(1, 2)", x.layer(1, 2), 1);
        Check.due(20, "layer(0, 2), those not in the water are in none", x.layer(0, 2), 0);
        x.pay(99);
        // Metres 199, 99, 94, 0.
        Check.due(20, "layer(0, 2)", x.layer(0, 2), 2);
        Check.due(20, "layer(1, 2)", x.layer(1, 2), 1);
        x.setSlope(6);
        Check.due(20, "layer(0, 2) aslant", x.layer(0, 2), 3);
        Check.due(20, "layer(1, 2) aslant", x.layer(1, 2), 0);
        x.setSlope(0);
        x.pay(1);
        // Metres 200, 100, 95, 0.
        Check.due(20, "layer(2, 2)", x.layer(2, 2), 1);
        Check.due(20, "layer(1, 2)", x.layer(1, 2), 1);
        x.send();
        x.pass(19);
        Check.due(20, "layer(0, 2), shut ones do not count", x.layer(0, 2), 0);
        Check.due(20, "layer(0, 3)", x.layer(0, 3), 1);
        MessengerCasts y = Check.after("b");
        y.set(1, 999);
        y.pay(999);
        Check.due(20, "layer(9, 2)", y.layer(9, 2), 1);
    }

    private static void layerShut() {
        MessengerCasts x = Check.after("b;+5;b;+94;b");
        x.set(1, 50);
        x.pay(51);
        x.pay(51);
        x.pay(-52);
        // Shut at 150, at 196, and at 50 metres.
        Check.due(20, "layer(0, 3)", x.layer(0, 3), 1);
        Check.due(20, "layer(1, 3)", x.layer(1, 3), 2);
        Check.due(20, "layer(2, 3)", x.layer(2, 3), 0);
        x.pay(600);
        Check.due(20, "layer(1, 3) stays", x.layer(1, 3), 2);
        Check.due(20, "layer(7, 3)", x.layer(7, 3), 0);
        Check.due(20, "layer(7, 2)", x.layer(7, 2), 0);
    }

    private static void layerErrors() {
        MessengerCasts x = new MessengerCasts();
        Check.due(20, "layer(-1, 0)", x.layer(-1, 0), Check.UNKNOWN);
        Check.due(20, "layer(10, 0)", x.layer(10, 0), Check.UNKNOWN);
        Check.due(20, "layer(10, 4)", x.layer(10, 4), Check.UNKNOWN);
        Check.due(20, "layer(MAX, 0)", x.layer(Integer.MAX_VALUE, 0), Check.UNKNOWN);
        Check.due(20, "layer(0, -1)", x.layer(0, -1), Check.BAD_VALUE);
        Check.due(20, "layer(9, 4)", x.layer(9, 4), Check.BAD_VALUE);
        Check.due(20, "layer(0, MIN)", x.layer(0, Integer.MIN_VALUE), Check.BAD_VALUE);
    }
}
