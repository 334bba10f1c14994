/** The boundary cases of promises 1 to 4 and 21, and of "THE CABLE", each sentence in a method of its own. */
public final class CableEdgesTest {
    private static final int[] PER_MILLE = {1000, 985, 940, 866, 766, 643, 500};

    public static void main(String[] args) {
        promise1IsBareEachTime();
        promise2MetresFromMinus999To999();
        promise2MetresNotNought();
        promise2NotLessThanNought();
        promise2NotMoreThan999();
        promise2LargestAndSmallestInt();
        promise2AnswersHowManyAreTakenBack();
        promise2TakesBackAboveWhatIsPaidOut();
        promise2JerkByMoreMetresThanTheSetting();
        promise2JerkByTheSettingAtItsEnds();
        promise2JerkShutsTheLeastOpenOne();
        promise2JerkInTheWaterBehindIt();
        promise2JerkWithNoneToShut();
        promise2JerkAsThingsAreBehindIt();
        promise2JerkLetsNoneLoose();
        promise2JerkSecond();
        promise3SlopesFromNoughtToSix();
        promise3NoneIfItIsSoAlready();
        promise4CountsAsTwoMoreAtMostSix();
        promise4HungOnWithNothingPaidOutAlone();
        promise4LostAtAnyTime();
        promise4NoneIfItIsSoAlready();
        promise4DepthAndStepAsItCounts();
        promise21MetresAndSlopes();
        promise21RoundedDown();
        promise21BadValues();
        Check.finish("CableEdgesTest");
    }

    private static MessengerCasts at(int paid) {
        MessengerCasts x = new MessengerCasts();
        x.set(1, 999);
        if (paid > 0) {
            x.pay(paid);
        }
        return x;
    }

    /** "Creates a bare cable with its weight, nothing paid out, at the second 0": each object for itself. */
    private static void promise1IsBareEachTime() {
        MessengerCasts first = new MessengerCasts();
        for (Scene scene : new Scene[] {Scenes.rich(), Scenes.lost(), Scenes.tenBottles()}) {
            MessengerCasts other = scene.play();
            Check.due(1, "the other one has states", other.count(17) > 0 ? 1 : 0, 1);
            Look.same(1, "beside another object", Scene.NEW.told(), Look.at(new MessengerCasts(), 512));
        }
        int[] counts = {0, 0, 0, 0, 0, 0, 0, 0, 0, 0, 0, 0, 0, 0, 0, 20, 200, 0, 0};
        for (int i = 0; i < counts.length; i++) {
            Check.due(1, "count(" + i + ") of the first object", first.count(i), counts[i]);
        }
        for (int i = 0; i < 10; i++) {
            Check.due(1, "layer(" + i + ", 0)", first.layer(i, 0), 200 - 20 * i);
            Check.due(1, "layer(" + i + ", 1)", first.layer(i, 1), 340 + i);
            Check.due(1, "bottle(" + i + ", 0)", first.bottle(i, 0), Check.UNKNOWN);
            Check.due(1, "messenger(" + i + ", 0)", first.messenger(i, 0), Check.NONE);
        }
        Check.due(1, "perform() of the empty text", first.perform(), -1100);
        Check.due(1, "restore(), the snapshot is empty", first.restore(), Check.NONE);
        Check.due(1, "undo(), the history is empty", first.undo(), Check.NONE);
        Check.due(1, "stopped(0)", first.stopped(0), Check.NONE);
        Check.due(1, "stopped(1)", first.stopped(1), Check.NONE);
    }

    /** "-999 to 999, not 0: below 0 for coming in". */
    private static void promise2MetresFromMinus999To999() {
        MessengerCasts x = at(0);
        Check.due(2, "pay(1000)", x.pay(1000), Check.BAD_VALUE);
        Check.due(2, "pay(999)", x.pay(999), 0);
        Check.due(2, "count(1)", x.count(1), 999);
        Check.due(2, "pay(-1000)", x.pay(-1000), Check.BAD_VALUE);
        Check.due(2, "count(1)", x.count(1), 999);
        Check.due(2, "pay(-999)", x.pay(-999), 0);
        Check.due(2, "count(1)", x.count(1), 0);
        Check.due(2, "pay(1)", x.pay(1), 0);
        Check.due(2, "count(1)", x.count(1), 1);
        Check.due(2, "pay(-1)", x.pay(-1), 0);
        Check.due(2, "count(1)", x.count(1), 0);
    }

    private static void promise2MetresNotNought() {
        for (int paid : new int[] {0, 1, 500, 999}) {
            MessengerCasts x = at(paid);
            Check.due(2, "pay(0) at " + paid, x.pay(0), Check.BAD_VALUE);
            Check.due(2, "count(1)", x.count(1), paid);
        }
    }

    /** "NOT_POSSIBLE if less than 0 would be paid out". */
    private static void promise2NotLessThanNought() {
        for (int paid : new int[] {1, 2, 500, 997, 998}) {
            MessengerCasts x = at(paid);
            Check.due(2, "pay(" + (-paid - 1) + ") of " + paid, x.pay(-paid - 1), Check.NOT_POSSIBLE);
            Check.due(2, "pay(-999) of " + paid, x.pay(-999), Check.NOT_POSSIBLE);
            Check.due(2, "count(1)", x.count(1), paid);
            Check.due(2, "pay(" + -paid + ") of " + paid, x.pay(-paid), 0);
            Check.due(2, "count(1)", x.count(1), 0);
        }
        Check.due(2, "pay(-1) of nothing", at(0).pay(-1), Check.NOT_POSSIBLE);
        Check.due(2, "pay(-999) of nothing", at(0).pay(-999), Check.NOT_POSSIBLE);
    }

    /** "FULL if more than 999 would be". */
    private static void promise2NotMoreThan999() {
        for (int paid : new int[] {1, 2, 499, 997, 998}) {
            MessengerCasts x = at(paid);
            Check.due(2, "pay(" + (1000 - paid) + ") to " + paid, x.pay(1000 - paid), Check.FULL);
            Check.due(2, "pay(999) to " + paid, x.pay(999), Check.FULL);
            Check.due(2, "count(1)", x.count(1), paid);
            Check.due(2, "pay(" + (999 - paid) + ") to " + paid, x.pay(999 - paid), 0);
            Check.due(2, "count(1)", x.count(1), 999);
        }
        Check.due(2, "pay(1) to 999", at(999).pay(1), Check.FULL);
        Check.due(2, "pay(999) to 999", at(999).pay(999), Check.FULL);
    }

    /** Sums and differences of these would wrap around. */
    private static void promise2LargestAndSmallestInt() {
        int[] far = {Integer.MAX_VALUE, Integer.MAX_VALUE - 998, Integer.MIN_VALUE, Integer.MIN_VALUE + 1,
            Integer.MIN_VALUE + 999, 1 << 30, -(1 << 30), 65536, -65536, 65537, -65535};
        for (int paid : new int[] {0, 1, 500, 999}) {
            MessengerCasts x = at(paid);
            for (int metres : far) {
                Check.due(2, "pay(" + metres + ") at " + paid, x.pay(metres), Check.BAD_VALUE);
                Check.due(2, "count(1)", x.count(1), paid);
            }
        }
    }

    private static void promise2AnswersHowManyAreTakenBack() {
        for (int sent = 0; sent <= 12; sent++) {
            MessengerCasts x = at(50);
            for (int i = 0; i < sent; i++) {
                x.send();
            }
            Check.due(2, "pay(1), none is taken back", x.pay(1), 0);
            Check.due(2, "pay(-1), none is taken back", x.pay(-1), 0);
            Check.due(2, "count(9)", x.count(9), sent);
            Check.due(2, "pay(-1), " + sent + " are taken back", x.pay(-1), sent);
            Check.due(2, "count(9)", x.count(9), 0);
            Check.due(2, "count(14)", x.count(14), sent);
        }
    }

    /** "Messengers keep their marks; one whose mark is above what is paid out then is taken back". */
    private static void promise2TakesBackAboveWhatIsPaidOut() {
        for (int in = 1; in <= 12; in++) {
            // At the marks 40, 45, 50.
            MessengerCasts x = Check.after("+50;!;.1;!;.1;!");
            int back = in > 10 ? 3 : in > 5 ? 2 : 1;
            Check.due(2, "pay(" + -in + ") of 50", x.pay(-in), back);
            Check.due(2, "count(9)", x.count(9), 3 - back);
            Check.due(2, "count(14)", x.count(14), back);
            Check.due(2, "messenger(0, 0)", x.messenger(0, 0), back < 3 ? 40 : Check.NONE);
            Check.due(2, "messenger(1, 0)", x.messenger(1, 0), back < 2 ? 45 : Check.NONE);
            Check.due(2, "messenger(2, 0)", x.messenger(2, 0), Check.NONE);
        }
        MessengerCasts x = Check.after("+50;!;.1;!;.1;!");
        Check.due(2, "pay(100)", x.pay(100), 0);
        for (int i = 0; i < 3; i++) {
            Check.due(2, "messenger(" + i + ", 0) keeps its mark", x.messenger(i, 0), 40 + 5 * i);
        }
        // A messenger at the mark 0 is not above nothing paid out.
        MessengerCasts y = Check.after("m;+5;!;.1");
        Check.due(2, "pay(-5) to nothing", y.pay(-5), 0);
        Check.due(2, "messenger(0, 0)", y.messenger(0, 0), 0);
    }

    /** "If more metres go out or come in at once than the setting 1 tells". */
    private static void promise2JerkByMoreMetresThanTheSetting() {
        for (int setting : new int[] {1, 2, 50, 199, 200, 201, 400, 498}) {
            for (int more = 0; more <= 1; more++) {
                MessengerCasts out = Check.after("b;+1");
                out.set(1, setting);
                out.pay(setting + more);
                Check.due(2, "bottle(0, 13), " + more + " more out than " + setting, out.bottle(0, 13), more);
                Check.due(2, "bottle(0, 3)", out.bottle(0, 3), more);
                MessengerCasts in = new MessengerCasts();
                in.clamp(false);
                in.set(1, 999);
                in.pay(999);
                in.set(1, setting);
                in.pay(-setting - more);
                Check.due(2, "bottle(0, 13), " + more + " more in than " + setting, in.bottle(0, 13), more);
                Check.due(2, "bottle(0, 3)", in.bottle(0, 3), more);
            }
        }
        // At first it tells 200.
        Check.due(2, "bottle(0, 3), 200 out", Check.after("b;+200").bottle(0, 3), 0);
        Check.due(2, "bottle(0, 3), 201 out", Check.after("b;+201").bottle(0, 3), 1);
        Check.due(2, "bottle(0, 3), 200 in", Check.after("b;+200;+9;-200").bottle(0, 3), 0);
        Check.due(2, "bottle(0, 3), 201 in", Check.after("b;+200;+9;-201").bottle(0, 3), 1);
    }

    /** The setting 1: "1 to 999". */
    private static void promise2JerkByTheSettingAtItsEnds() {
        MessengerCasts x = Check.after("b;+5;b;+5;b;+5");
        x.set(1, 1);
        x.pay(1);
        x.pay(-1);
        Check.due(2, "count(7), one metre is not more than 1", x.count(7), 0);
        x.pay(2);
        Check.due(2, "count(7), two are", x.count(7), 1);
        x.pay(-2);
        Check.due(2, "count(7), two in are", x.count(7), 2);
        MessengerCasts y = Check.after("b");
        y.set(1, 999);
        y.pay(999);
        y.pay(-998);
        Check.due(2, "count(7), 999 are not more than 999", y.count(7), 0);
        y.undo();
        y.undo();
        y.set(1, 998);
        y.pay(999);
        Check.due(2, "count(7), 999 are more than 998", y.count(7), 1);
    }

    private static void shutAre(MessengerCasts x, String behind, int... due) {
        for (int i = 0; i < due.length; i++) {
            Check.due(2, "bottle(" + i + ", 3) " + behind, x.bottle(i, 3), due[i]);
            Check.due(2, "bottle(" + i + ", 13) " + behind, x.bottle(i, 13), due[i]);
        }
    }

    /** "The open bottle in the water with the least mark": one each time, the next if it is shut. */
    private static void promise2JerkShutsTheLeastOpenOne() {
        MessengerCasts x = Check.after("+10;b;+10;m;+10;b;+10");
        x.set(1, 2);
        shutAre(x, "before", 0, 0, 0);
        x.pay(3);
        shutAre(x, "behind one jerk", 1, 0, 0);
        x.pay(-3);
        shutAre(x, "behind two jerks", 1, 1, 0);
        x.pay(3);
        shutAre(x, "behind three jerks", 1, 1, 1);
        x.pay(3);
        shutAre(x, "behind four jerks", 1, 1, 1);
        Check.due(2, "bottle(0, 11)", x.bottle(0, 11), 33);
        Check.due(2, "bottle(1, 11)", x.bottle(1, 11), 20);
        Check.due(2, "bottle(2, 11)", x.bottle(2, 11), 13);
        // A higher one that a messenger shut is no hindrance, nor is a lower one.
        MessengerCasts y = Check.after("b;+10;b;+10;b;+10;!;.2;+210");
        Check.due(2, "bottle(2, 13)", y.bottle(2, 13), 0);
        Check.due(2, "bottle(0, 13)", y.bottle(0, 13), 1);
        Check.due(2, "bottle(1, 3)", y.bottle(1, 3), 0);
        MessengerCasts z = Check.after("b;+10;!;.2;b;+10;+210");
        Check.due(2, "bottle(0, 13), shut by a messenger", z.bottle(0, 13), 0);
        Check.due(2, "bottle(1, 13)", z.bottle(1, 13), 1);
    }

    /** "In the water", "as things are behind it": a mark below what is paid out behind it. */
    private static void promise2JerkInTheWaterBehindIt() {
        // The bottle's mark is 100; 160 metres come in.
        for (int left = 99; left <= 102; left++) {
            MessengerCasts x = Check.after("+100;b");
            x.set(1, 999);
            x.pay(160 + left - 100);
            x.set(1, 159);
            x.pay(-160);
            Check.due(2, "count(1)", x.count(1), left);
            Check.due(2, "bottle(0, 3), behind it " + left + " are out", x.bottle(0, 3), left > 100 ? 1 : 0);
            Check.due(2, "bottle(0, 11)", x.bottle(0, 11), left > 100 ? left - 100 : Check.NONE);
        }
        // One at the water, and one above it, come into the water by it.
        for (int first : new int[] {100, 99, 90, 0}) {
            MessengerCasts x = Check.after("+100;b");
            x.pay(-100);
            x.set(1, 1);
            if (first > 0) {
                x.set(1, 999);
                x.pay(first);
                x.set(1, 1);
            }
            x.pay(101 - first == 1 ? 2 : 101 - first);
            Check.due(2, "bottle(0, 13), " + first + " were out", x.bottle(0, 13), 1);
            Check.due(2, "bottle(0, 11)", x.bottle(0, 11), first == 100 ? 2 : 1);
        }
        // The lowest one alone is in the water behind it.
        MessengerCasts y = Check.after("+10;b;+40;b;+200;-200");
        y.set(1, 5);
        y.pay(-6);
        Check.due(2, "bottle(0, 13)", y.bottle(0, 13), 1);
        y.pay(-6);
        Check.due(2, "bottle(1, 13), it is above the water", y.bottle(1, 13), 0);
    }

    private static void promise2JerkWithNoneToShut() {
        MessengerCasts x = new MessengerCasts();
        Check.due(2, "pay(999), no bottle", x.pay(999), 0);
        x.clamp(true);
        Check.due(2, "pay(-999), the bottle is above the water", x.pay(-999), 0);
        Check.due(2, "pay(999), the bottle is at the water", x.pay(999), 0);
        Check.due(2, "bottle(0, 3)", x.bottle(0, 3), 0);
        MessengerCasts y = Check.after("b;+300");
        int[] before = {y.bottle(0, 6), y.bottle(0, 8), y.bottle(0, 11)};
        y.pass(5);
        y.pay(300);
        Check.due(2, "bottle(0, 6), it was shut before", y.bottle(0, 6), before[0]);
        Check.due(2, "bottle(0, 8)", y.bottle(0, 8), before[1]);
        Check.due(2, "bottle(0, 11)", y.bottle(0, 11), before[2]);
    }

    /** Its metre, depth and water are those behind it. */
    private static void promise2JerkAsThingsAreBehindIt() {
        MessengerCasts x = Check.after("b;+99;/2");
        x.set(1, 7);
        x.pay(8);
        // 107 metres are 100 deep at the slope 2; 99 were 93 deep.
        int[] due = {0, 107, 100, 1, 0, 0, 0, 180, 190, 341, 100, 107, 0, 1};
        for (int i = 0; i < due.length; i++) {
            Check.due(2, "bottle(0, " + i + ") out", x.bottle(0, i), due[i]);
        }
        MessengerCasts y = Check.after("b;+107;/2");
        y.set(1, 0);
        y.set(1, 1);
        y.pay(-2);
        // 105 metres are 98 deep.
        int[] in = {0, 105, 98, 1, 0, 0, 0, 200, 209, 340, 90, 105, 0, 1};
        for (int i = 0; i < in.length; i++) {
            Check.due(2, "bottle(0, " + i + ") in", y.bottle(0, i), in[i]);
        }
    }

    /** "It lets no messenger loose"; as it is shut then, a messenger that strikes it lets none loose either. */
    private static void promise2JerkLetsNoneLoose() {
        MessengerCasts x = Check.after("m;+201");
        Check.due(2, "bottle(0, 3)", x.bottle(0, 3), 1);
        Check.due(2, "bottle(0, 4), it hangs there still", x.bottle(0, 4), 1);
        Check.due(2, "bottle(0, 5), it was not struck", x.bottle(0, 5), 0);
        Check.due(2, "count(9)", x.count(9), 0);
        Check.due(2, "count(11)", x.count(11), 0);
        x.send();
        x.pass(41);
        Check.due(2, "bottle(0, 5)", x.bottle(0, 5), 1);
        Check.due(2, "bottle(0, 4)", x.bottle(0, 4), 1);
        Check.due(2, "bottle(0, 13)", x.bottle(0, 13), 1);
        Check.due(2, "count(9)", x.count(9), 0);
        Check.due(2, "count(11)", x.count(11), 0);
    }

    /** "By a jerk that of now, 0 if none passed". */
    private static void promise2JerkSecond() {
        int[] seconds = {0, 1, 2, 999};
        for (int passed : seconds) {
            MessengerCasts x = Check.after("b");
            if (passed > 0) {
                x.pass(passed);
            }
            x.pay(201);
            x.pass(7);
            Check.due(2, "bottle(0, 6), " + passed + " passed", x.bottle(0, 6), passed);
        }
    }

    /** "The slope, 0 to 6"; "returns the previous one". */
    private static void promise3SlopesFromNoughtToSix() {
        for (int from = 0; from <= 6; from++) {
            for (int to = 0; to <= 6; to++) {
                MessengerCasts x = new MessengerCasts();
                x.setSlope(from);
                int due = from == to ? Check.NONE : from;
                Check.due(3, "setSlope(" + to + ") behind " + from, x.setSlope(to), due);
                Check.due(3, "count(2)", x.count(2), to);
                Check.due(3, "count(3)", x.count(3), to);
            }
        }
        int[] bad = {-1, 7, -7, 8, Integer.MAX_VALUE, Integer.MIN_VALUE, 256, 65536};
        for (int slope : bad) {
            for (int from : new int[] {0, 6}) {
                MessengerCasts x = new MessengerCasts();
                x.setSlope(from);
                Check.due(3, "setSlope(" + slope + ")", x.setSlope(slope), Check.BAD_VALUE);
                Check.due(3, "count(2)", x.count(2), from);
            }
        }
    }

    /** "NONE if it is so already": the slope that is set, not the one that counts. */
    private static void promise3NoneIfItIsSoAlready() {
        MessengerCasts x = new MessengerCasts();
        x.weight(true);
        Check.due(3, "setSlope(0), it counts as 2", x.setSlope(0), Check.NONE);
        Check.due(3, "setSlope(2), it counts as 2", x.setSlope(2), 0);
        Check.due(3, "setSlope(4)", x.setSlope(4), 2);
        Check.due(3, "setSlope(6), it counts as 6 already", x.setSlope(6), 4);
        Check.due(3, "setSlope(6)", x.setSlope(6), Check.NONE);
        Check.due(3, "setSlope(5)", x.setSlope(5), 6);
        Check.due(3, "count(2)", x.count(2), 5);
        Check.due(3, "count(3)", x.count(3), 6);
    }

    /** "It counts as 2 more, but at most as 6, while the weight is lost." */
    private static void promise4CountsAsTwoMoreAtMostSix() {
        int[] counted = {2, 3, 4, 5, 6, 6, 6};
        for (int slope = 0; slope <= 6; slope++) {
            MessengerCasts x = new MessengerCasts();
            x.setSlope(slope);
            Check.due(4, "weight(true) at the slope " + slope, x.weight(true), counted[slope]);
            Check.due(4, "count(3)", x.count(3), counted[slope]);
            Check.due(4, "count(2)", x.count(2), slope);
            Check.due(4, "weight(false) at the slope " + slope, x.weight(false), slope);
            Check.due(4, "count(3)", x.count(3), slope);
            x.weight(true);
            x.setSlope((slope + 3) % 7);
            Check.due(4, "count(3), the slope set while it is lost", x.count(3), counted[(slope + 3) % 7]);
        }
    }

    /** "Hangs one on, which is possible only while nothing is paid out." */
    private static void promise4HungOnWithNothingPaidOutAlone() {
        for (int paid : new int[] {1, 2, 500, 998, 999}) {
            MessengerCasts x = at(paid);
            x.weight(true);
            Check.due(4, "weight(false) at " + paid, x.weight(false), Check.NOT_POSSIBLE);
            Check.due(4, "count(4)", x.count(4), 1);
            Check.due(4, "count(3)", x.count(3), 2);
            if (paid > 1) {
                x.pay(1 - paid);
                Check.due(4, "weight(false), a metre is out", x.weight(false), Check.NOT_POSSIBLE);
            }
            x.pay(-1);
            Check.due(4, "weight(false), nothing is out", x.weight(false), 0);
            Check.due(4, "count(4)", x.count(4), 0);
            Check.due(4, "count(3)", x.count(3), 0);
        }
    }

    private static void promise4LostAtAnyTime() {
        for (int paid : new int[] {0, 1, 999}) {
            MessengerCasts x = at(paid);
            Check.due(4, "weight(true) at " + paid, x.weight(true), 2);
            Check.due(4, "count(4)", x.count(4), 1);
        }
    }

    /** "NONE if it is so already", also one that hangs while cable is paid out. */
    private static void promise4NoneIfItIsSoAlready() {
        for (int paid : new int[] {0, 1, 999}) {
            MessengerCasts x = at(paid);
            Check.due(4, "weight(false) at " + paid, x.weight(false), Check.NONE);
            x.weight(true);
            Check.due(4, "weight(true) at " + paid, x.weight(true), Check.NONE);
            Check.due(4, "count(4)", x.count(4), 1);
        }
    }

    private static void promise4DepthAndStepAsItCounts() {
        int[] counted = {2, 3, 4, 5, 6, 6, 6};
        int[] steps = {5, 4, 3, 2, 1, 1, 0};
        for (int slope = 0; slope <= 6; slope++) {
            MessengerCasts x = Check.after("b;+200;!;/" + slope);
            x.weight(true);
            Check.due(4, "bottle(0, 2), lost at the slope " + slope, x.bottle(0, 2), PER_MILLE[counted[slope]] / 5);
            x.pass(1);
            Check.due(4, "messenger(0, 0), lost", x.messenger(0, 0), 200 - steps[counted[slope]]);
            MessengerCasts y = Check.after("b;+200;!;/" + slope);
            Check.due(3, "bottle(0, 2) at the slope " + slope, y.bottle(0, 2), PER_MILLE[slope] / 5);
            y.pass(1);
            Check.due(3, "messenger(0, 0)", y.messenger(0, 0), 200 - steps[slope]);
        }
    }

    /** "0 to 999" and "0 to 6", each metre at each slope, whatever the slope and the weight are now. */
    private static void promise21MetresAndSlopes() {
        for (int slope = 0; slope <= 6; slope++) {
            MessengerCasts x = null;
            for (int metre = 0; metre <= 999; metre++) {
                if (metre % 400 == 0) {
                    x = Check.after("/" + (6 - slope) + ";+9");
                    x.weight(true);
                }
                int due = (int) ((long) metre * PER_MILLE[slope] / 1000L);
                Check.due(21, "depth(" + metre + ", " + slope + ")", x.depth(metre, slope), due);
            }
        }
    }

    /** "Divided by 1000, rounded down." */
    private static void promise21RoundedDown() {
        MessengerCasts x = new MessengerCasts();
        int[][] rows = {{1, 1, 0}, {2, 1, 1}, {200, 1, 197}, {199, 1, 196}, {201, 1, 197}, {50, 2, 47}, {49, 2, 46},
            {500, 3, 433}, {499, 3, 432}, {501, 3, 433}, {500, 4, 383}, {499, 4, 382}, {999, 4, 765}, {1, 5, 0},
            {2, 5, 1}, {1, 6, 0}, {2, 6, 1}, {3, 6, 1}, {998, 6, 499}, {999, 6, 499}, {999, 0, 999}, {0, 6, 0}};
        for (int[] row : rows) {
            Check.due(21, "depth(" + row[0] + ", " + row[1] + ")", x.depth(row[0], row[1]), row[2]);
        }
    }

    private static void promise21BadValues() {
        MessengerCasts x = new MessengerCasts();
        int[] metres = {-1, 1000, Integer.MAX_VALUE, Integer.MIN_VALUE, -999};
        int[] slopes = {-1, 7, Integer.MAX_VALUE, Integer.MIN_VALUE, 8};
        for (int i = 0; i < metres.length; i++) {
            for (int slope = 0; slope <= 6; slope += 3) {
                String call = "depth(" + metres[i] + ", " + slope + ")";
                Check.due(21, call, x.depth(metres[i], slope), Check.BAD_VALUE);
            }
            for (int metre : new int[] {0, 1, 999}) {
                String call = "depth(" + metre + ", " + slopes[i] + ")";
                Check.due(21, call, x.depth(metre, slopes[i]), Check.BAD_VALUE);
            }
            Check.due(21, "depth, both bad", x.depth(metres[i], slopes[i]), Check.BAD_VALUE);
        }
    }
}
