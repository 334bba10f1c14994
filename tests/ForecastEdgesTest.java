/** The boundary cases of promises 22 to 24, each sentence in a method of its own. */
public final class ForecastEdgesTest {
    private static final int NONE = Check.NONE;
    private static final int[] STEPS = {5, 4, 3, 2, 1, 1};

    public static void main(String[] args) {
        promise22Unknown();
        promise22ShutIsFirst();
        promise22NotInTheWater();
        promise22Stick();
        promise22NoneAboveIt();
        promise22DoNotComeToIt();
        promise22ZeroIfItWill();
        promise22OrderOfReasons();
        promise22ByAMessengerAlone();
        promise23Unknown();
        promise23HowMany();
        promise23NoneIfItIsShut();
        promise23NoneIfItWillNotBe();
        promise23ByTheOneThatComesFirst();
        promise23ByOneThatIsLetLooseLater();
        promise23TenBottles();
        promise24NoughtIfNoneIs();
        promise24NoneIfTheyStick();
        promise24HowMany();
        promise24LetLooseOnesToo();
        promise24TheLastOfTwelve();
        promises22To24AtTheLastSecond();
        promises22To24LongestWay();
        Check.finish("ForecastEdgesTest");
    }

    private static void told(String name, MessengerCasts x, int bottle, int reason, int seconds) {
        Check.due(22, "reason(" + bottle + ") " + name, x.reason(bottle), reason);
        Check.due(23, "shutIn(" + bottle + ") " + name, x.shutIn(bottle), seconds);
    }

    private static void unknown(int promise, int bottles, int bottle) {
        MessengerCasts x = Check.after("+9;!");
        for (int i = 0; i < bottles; i++) {
            x.clamp(true);
            x.pay(5);
        }
        String call = (promise == 22 ? "reason(" : "shutIn(") + bottle + ") of " + bottles;
        Check.due(promise, call, promise == 22 ? x.reason(bottle) : x.shutIn(bottle), Check.UNKNOWN);
    }

    private static void promise22Unknown() {
        for (int bottles = 0; bottles <= 10; bottles += 5) {
            for (int bottle : new int[] {-1, bottles, 10, 11, Integer.MIN_VALUE, Integer.MAX_VALUE, -10, 1 << 16}) {
                unknown(22, bottles, bottle);
            }
        }
        MessengerCasts x = Scenes.tenBottles().play();
        Check.due(22, "reason(0) of 10", x.reason(0), 4);
        Check.due(22, "reason(9) of 10", x.reason(9), 2);
    }

    /** "1 it is shut": in the water, at it, above it, with a messenger that would strike it. */
    private static void promise22ShutIsFirst() {
        MessengerCasts x = Check.after("+20;b;+5;!;.1");
        told("shut", x, 0, 1, NONE);
        x.send();
        told("shut, one comes to it", x, 0, 1, NONE);
        x.setSlope(6);
        told("shut, messengers stick", x, 0, 1, NONE);
        x.pay(-5);
        told("shut, at the water", x, 0, 1, NONE);
        x.pay(-5);
        told("shut, above the water", x, 0, 1, NONE);
        told("shut by the jerk", Check.after("b;+201;!"), 0, 1, NONE);
    }

    /** "2 it is not in the water": its mark is not below what is paid out. */
    private static void promise22NotInTheWater() {
        for (int d = -3; d <= 3; d++) {
            MessengerCasts x = Check.after("+20;b");
            if (d != 0) {
                x.pay(d);
            }
            told(d + " below the water", x, 0, d > 0 ? 4 : 2, NONE);
            x.send();
            told(d + " below the water, one is sent", x, 0, d > 0 ? 0 : 2, d > 0 ? 1 : NONE);
        }
        MessengerCasts y = new MessengerCasts();
        y.clamp(false);
        told("nothing is paid out", y, 0, 2, NONE);
    }

    /** "3 messengers stick": with a slope that counts as 6, also if none is on its way. */
    private static void promise22Stick() {
        for (int slope = 0; slope <= 6; slope++) {
            MessengerCasts none = Check.after("b;+10;/" + slope);
            told("none is on its way, slope " + slope, none, 0, slope == 6 ? 3 : 4, NONE);
            MessengerCasts one = Check.after("b;+1;!;/" + slope);
            told("one is on its way, slope " + slope, one, 0, slope == 6 ? 3 : 0, slope == 6 ? NONE : 1);
            one.weight(true);
            told("lost, slope " + slope, one, 0, slope >= 4 ? 3 : 0, slope >= 4 ? NONE : 1);
            none.weight(true);
            told("lost, none, slope " + slope, none, 0, slope >= 4 ? 3 : 4, NONE);
        }
    }

    /** "4 none is on its way above it": one at its own mark or below it is not above it. */
    private static void promise22NoneAboveIt() {
        for (int d = -3; d <= 3; d++) {
            // The messenger is d above the bottle.
            MessengerCasts x = Check.after("+20");
            if (d <= 0) {
                if (d < 0) {
                    x.pay(d);
                }
                x.send();
                if (d < 0) {
                    x.pay(-d);
                }
                x.clamp(false);
            } else {
                x.clamp(false);
                x.pay(d);
                x.send();
            }
            x.pay(5);
            Check.due(19, "messenger(0, 0)", x.messenger(0, 0), 20 + d);
            told("one is " + d + " above it", x, 0, d > 0 ? 0 : 4, d > 0 ? 1 : NONE);
        }
        // One that a higher bottle could let loose is not on its way yet.
        told("one hangs above it", Check.after("b;+5;m;+5"), 0, 4, NONE);
        told("one was let loose by it", Check.after("b;+9;m;+1;!;.1"), 0, 0, 2);
        MessengerCasts y = Check.after("b;+5;!;+5;!;.1");
        y.pay(-5);
        told("one was taken back", y, 0, 1, NONE);
        MessengerCasts z = Check.after("b;+9;!");
        z.pay(-1);
        told("it was taken back", z, 0, 4, NONE);
    }

    /** "5 those above it do not come to it": they stop at a bottle between that lets none loose. */
    private static void promise22DoNotComeToIt() {
        told("below an open one without a messenger", Check.after("b;+5;b;+5;!"), 0, 5, NONE);
        told("below a shut one", Check.after("b;+5;m;+5;!;.1;!;.1"), 0, 1, NONE);
        told("below one that the jerk shut", jerkedAbove(), 1, 5, NONE);
        told("two below", Check.after("m;+5;m;+5;b;+5;!"), 0, 5, NONE);
        told("two below, not the first", Check.after("m;+5;b;+5;m;+5;!"), 0, 5, NONE);
        told("two below, the first", Check.after("m;+5;b;+5;m;+5;!"), 1, 0, 2);
        told("twelve come, none to it", Check.after("b;+5;b;+5;!;!;!;!;!;!;!;!;!;!;!;!"), 0, 5, NONE);
        // One below it, and one that is stopped above it.
        MessengerCasts x = Check.after("+9;!;b;+5;b;+5;!");
        told("one below it, one stopped above it", x, 0, 5, NONE);
    }

    /** Bottles at 10, shut by the jerk, at 5 and at 0, open; a messenger at 220. */
    private static MessengerCasts jerkedAbove() {
        MessengerCasts x = Check.after("+10;m;+200");
        x.set(1, 1);
        x.pay(-2);
        Check.due(18, "bottle(0, 13)", x.bottle(0, 13), 1);
        x.set(1, 999);
        x.pay(-203);
        x.clamp(false);
        x.pay(-5);
        x.clamp(false);
        x.pay(220);
        x.send();
        Check.due(22, "reason(2)", x.reason(2), 1);
        Check.due(22, "reason(0)", x.reason(0), 5);
        return x;
    }

    private static void promise22ZeroIfItWill() {
        told("one comes to it", Check.after("b;+10;!"), 0, 0, 2);
        told("one is let loose above it", Check.after("b;+10;m;+10;!"), 0, 0, 4);
        told("one that was let loose is above it", Check.after("b;+10;m;+10;!;.2"), 0, 0, 2);
        told("one comes behind those that stop", Check.after("b;+10;m;+10;!;.1;!;!"), 0, 0, 3);
    }

    /** "The first that holds." */
    private static void promise22OrderOfReasons() {
        MessengerCasts x = Check.after("b;+5;!;.1;/6;-5");
        told("shut, not in the water, sticking, none above", x, 0, 1, NONE);
        MessengerCasts y = Check.after("b;/6");
        told("not in the water, sticking, none above", y, 0, 2, NONE);
        y.pay(1);
        told("sticking, none above", y, 0, 3, NONE);
        MessengerCasts z = Check.after("b;+5;b;+5;!;/6");
        told("sticking, those above would not come", z, 0, 3, NONE);
        z.setSlope(5);
        told("those above do not come", z, 0, 5, NONE);
    }

    /** "By a messenger, if nothing else is done": what hangs, and the jerk, do not count. */
    private static void promise22ByAMessengerAlone() {
        MessengerCasts x = Check.after("m;+10;m;+10;m;+10");
        for (int i = 0; i < 3; i++) {
            told("all hang", x, i, 4, NONE);
        }
        x.send();
        for (int i = 0; i < 3; i++) {
            told("one is sent", x, i, 0, 6 - 2 * i);
        }
    }

    private static void promise23Unknown() {
        for (int bottles = 0; bottles <= 10; bottles += 5) {
            for (int bottle : new int[] {-1, bottles, 10, 11, Integer.MIN_VALUE, Integer.MAX_VALUE, -10, 1 << 16}) {
                unknown(23, bottles, bottle);
            }
        }
        MessengerCasts x = Scenes.tenBottles().and(y -> y.pay(2)).and(y -> y.send()).play();
        Check.due(23, "shutIn(9) of 10", x.shutIn(9), 1);
        Check.due(23, "shutIn(8) of 10", x.shutIn(8), 2);
    }

    /** Each way of 1 to 40 metres at each slope: the second in which it comes so far or farther. */
    private static void promise23HowMany() {
        for (int slope = 0; slope <= 5; slope++) {
            for (int metres = 1; metres <= 40; metres++) {
                for (int mark = 0; mark <= 20; mark += 20) {
                    MessengerCasts x = new MessengerCasts();
                    if (mark > 0) {
                        x.pay(mark);
                    }
                    x.clamp(false);
                    x.pay(metres);
                    x.send();
                    x.setSlope(slope);
                    int due = (metres + STEPS[slope] - 1) / STEPS[slope];
                    told(metres + " below, slope " + slope, x, 0, 0, due);
                    if (due > 1) {
                        Check.due(23, "pass(" + (due - 1) + ")", x.pass(due - 1), 0);
                        told("a second ahead", x, 0, 0, 1);
                    }
                    Check.due(23, "pass(1), the second that was told", x.pass(1), 1);
                    told("shut", x, 0, 1, NONE);
                }
            }
        }
    }

    private static void promise23NoneIfItIsShut() {
        MessengerCasts x = Check.after("b;+10;!;!;.1;!");
        Check.due(23, "shutIn(0), open", x.shutIn(0), 1);
        x.pass(1);
        Check.due(23, "shutIn(0), shut, one more comes", x.shutIn(0), NONE);
        Check.due(23, "count(9)", x.count(9), 1);
        Check.due(23, "shutIn(0), shut by the jerk", Check.after("b;+201;!").shutIn(0), NONE);
    }

    private static void promise23NoneIfItWillNotBe() {
        Check.due(23, "shutIn(0), at the water", Check.after("+5;!;b").shutIn(0), NONE);
        Check.due(23, "shutIn(0), they stick", Check.after("b;+5;!;/6").shutIn(0), NONE);
        Check.due(23, "shutIn(0), none above", Check.after("+5;!;b;+5").shutIn(0), NONE);
        Check.due(23, "shutIn(0), none comes", Check.after("b;+5;b;+5;!").shutIn(0), NONE);
    }

    /** Of several the one that comes first, which may be let loose by another bottle. */
    private static void promise23ByTheOneThatComesFirst() {
        MessengerCasts x = Check.after("b;+15;!;+15;!;+15;!");
        told("three come", x, 0, 0, 3);
        x.pass(2);
        told("the first is near", x, 0, 0, 1);
        MessengerCasts y = Check.after("+10;b;+30;m;+20;!;.3;!");
        // The first is at 45, and lets one loose at 40 in the next second.
        told("one is let loose ahead of the other", y, 0, 0, 1 + 6);
        told("the upper one", y, 1, 0, 1);
    }

    private static void promise23ByOneThatIsLetLooseLater() {
        for (int slope = 0; slope <= 5; slope++) {
            MessengerCasts x = Check.after("b;+7;m;+8;m;+11;!;/" + slope);
            int[] gaps = {7, 8, 11};
            int due = 0;
            for (int i = 2; i >= 0; i--) {
                due += (gaps[i] + STEPS[slope] - 1) / STEPS[slope];
                told("slope " + slope, x, i, 0, due);
            }
            Check.due(24, "quietIn(), slope " + slope, x.quietIn(), due);
        }
    }

    /** Ten bottles as near as can be: one a second at the slope 0, five seconds each at the slopes 4 and 5. */
    private static void promise23TenBottles() {
        int[] each = {1, 2, 2, 3, 5, 5};
        for (int slope = 0; slope <= 5; slope++) {
            MessengerCasts x = Check.after("m;+5;m;+5;m;+5;m;+5;m;+5;m;+5;m;+5;m;+5;m;+5;m;+5;!");
            if (slope > 0) {
                x.setSlope(slope);
            }
            for (int i = 0; i < 10; i++) {
                told("of ten, slope " + slope, x, i, 0, each[slope] * (10 - i));
            }
            Check.due(24, "quietIn(), gone a second behind the last", x.quietIn(), 10 * each[slope] + 1);
        }
    }

    /** "0 if none is": before any, behind all, and also at a slope that counts as 6. */
    private static void promise24NoughtIfNoneIs() {
        for (int slope = 0; slope <= 6; slope++) {
            MessengerCasts x = Check.after("m;+5;/" + slope);
            Check.due(24, "quietIn(), none, slope " + slope, x.quietIn(), 0);
        }
        Check.due(24, "quietIn() at first", new MessengerCasts().quietIn(), 0);
        Check.due(24, "quietIn(), gone", Check.after("+5;!;.1").quietIn(), 0);
        Check.due(24, "quietIn(), stopped", Check.after("b;+5;!;.1").quietIn(), 0);
        Check.due(24, "quietIn(), taken back", Check.after("+5;!;-1").quietIn(), 0);
        Check.due(24, "quietIn(), stopped, sticking", Check.after("b;+5;!;.1;/6").quietIn(), 0);
    }

    /** "NONE if they stick." */
    private static void promise24NoneIfTheyStick() {
        for (int slope = 0; slope <= 6; slope++) {
            MessengerCasts x = Check.after("+5;!;/" + slope);
            int due = slope == 6 ? NONE : (5 + STEPS[slope] - 1) / STEPS[slope];
            Check.due(24, "quietIn(), slope " + slope, x.quietIn(), due);
            x.weight(true);
            int lost = slope >= 4 ? NONE : (5 + STEPS[slope + 2] - 1) / STEPS[slope + 2];
            Check.due(24, "quietIn(), lost, slope " + slope, x.quietIn(), lost);
        }
        // One at the mark 0 sticks, too.
        Check.due(24, "quietIn(), at the mark 0", Check.after("m;+1;!;.1;/6").quietIn(), NONE);
        Check.due(24, "quietIn(), at the mark 0", Check.after("m;+1;!;.1;/5").quietIn(), 1);
    }

    private static void promise24HowMany() {
        for (int slope = 0; slope <= 5; slope++) {
            for (int mark = 1; mark <= 30; mark++) {
                MessengerCasts x = Check.after("+" + mark + ";!;/" + slope);
                int due = (mark + STEPS[slope] - 1) / STEPS[slope];
                Check.due(24, "quietIn() from " + mark + ", slope " + slope, x.quietIn(), due);
                if (due > 1) {
                    x.pass(due - 1);
                    Check.due(24, "quietIn() a second ahead", x.quietIn(), 1);
                    Check.due(24, "count(9)", x.count(9), 1);
                }
                x.pass(1);
                Check.due(24, "count(9)", x.count(9), 0);
                Check.due(24, "quietIn()", x.quietIn(), 0);
            }
        }
    }

    private static void promise24LetLooseOnesToo() {
        Check.due(24, "quietIn(), it stops", Check.after("+20;b;+10;!").quietIn(), 2);
        Check.due(24, "quietIn(), one is let loose", Check.after("+20;m;+10;!").quietIn(), 6);
        Check.due(24, "quietIn(), it is let loose at 0", Check.after("m;+10;!").quietIn(), 3);
        Check.due(24, "quietIn(), it stops at the next", Check.after("b;+20;m;+10;!").quietIn(), 6);
        Check.due(24, "quietIn(), a shut one lets none loose", Check.after("m;+201;!").quietIn(), 41);
    }

    private static void promise24TheLastOfTwelve() {
        MessengerCasts x = Check.after("+50");
        for (int i = 1; i <= 12; i++) {
            x.send();
            Check.due(24, "quietIn() with " + i, x.quietIn(), 10 + i - 1);
            x.pay(5);
        }
        MessengerCasts y = Scenes.twelveMessengers().play();
        Check.due(24, "quietIn(), twelve and one that is let loose", y.quietIn(), 10);
        y.pass(10);
        Check.due(24, "count(9)", y.count(9), 0);
    }

    /** Seconds that will not pass any more are told all the same: "if nothing else is done". */
    private static void promises22To24AtTheLastSecond() {
        MessengerCasts x = Scenes.atSecond(99999).play();
        Check.due(26, "count(0)", x.count(0), 99999);
        x.clamp(false);
        x.pay(10);
        x.send();
        told("behind 99999", x, 1, 0, 2);
        Check.due(24, "quietIn() behind 99999", x.quietIn(), 2);
        Check.due(8, "pass(1)", x.pass(1), Check.FULL);
    }

    /** 999 metres, with one metre in a second. */
    private static void promises22To24LongestWay() {
        for (int slope = 4; slope <= 5; slope++) {
            MessengerCasts x = Check.after("m");
            x.set(1, 999);
            x.pay(999);
            x.send();
            x.setSlope(slope);
            told("999 metres", x, 0, 0, 999);
            Check.due(24, "quietIn(), it lets one loose", x.quietIn(), 1000);
            Check.due(8, "pass(998)", x.pass(998), 0);
            told("998 seconds on", x, 0, 0, 1);
            Check.due(8, "pass(1)", x.pass(1), 1);
            Check.due(18, "bottle(0, 6)", x.bottle(0, 6), 999);
            Check.due(24, "quietIn()", x.quietIn(), 1);
        }
    }
}
