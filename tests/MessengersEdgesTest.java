/** The boundary cases of promises 7, 8 and 19, and of "BOTTLES, MESSENGERS", each sentence in a method of its own. */
public final class MessengersEdgesTest {
    private static final int NONE = Check.NONE;
    // Metres in a second, by the slope as it counts.
    private static final int[] STEPS = {5, 4, 3, 2, 1, 1, 0};

    public static void main(String[] args) {
        promise7NothingPaidOut();
        promise7AtMostTwelve();
        promise7RoomAgain();
        promise7LetLooseCountAmongTheTwelve();
        promise7AtTheMarkOfTheWater();
        promise8SecondsFrom1To999();
        promise8NotBeyond99999();
        promise8LargestAndSmallestInt();
        promise8MetresInASecond();
        promise8SticksAtSix();
        promise8StrikesUpToWhereItWouldBe();
        promise8StrikesBelowWhereItWas();
        promise8StrikesTheGreatestMark();
        promise8StopsForGood();
        promise8GoneAtNoughtOrLess();
        promise8BottleAtNoughtIsStruck();
        promise8ShutOneIsOnlyStruck();
        promise8LetLooseGoesOnFromTheNextSecond();
        promise8LetLooseAtNought();
        promise8TwelveOnOneBottle();
        promise8SeveralInOneSecond();
        promise8AnswersHowManyAreShut();
        promise8ManySecondsAsOneByOne();
        promise19Ranks();
        promise19What();
        promise19LeastMarksFirst();
        promise19HowDeep();
        Check.finish("MessengersEdgesTest");
    }

    private static MessengerCasts at(int paid) {
        MessengerCasts x = new MessengerCasts();
        x.set(1, 999);
        if (paid > 0) {
            x.pay(paid);
        }
        return x;
    }

    /** The slope counts so; with the weight lost where it can be. */
    private static void slope(MessengerCasts x, int counted, boolean lost) {
        if (lost) {
            x.weight(true);
            x.setSlope(counted - 2);
        } else {
            x.setSlope(counted);
        }
        Check.due(3, "count(3)", x.count(3), counted);
    }

    /** "NOT_POSSIBLE if nothing is paid out". */
    private static void promise7NothingPaidOut() {
        MessengerCasts x = at(0);
        Check.due(7, "send() at 0", x.send(), Check.NOT_POSSIBLE);
        x.pay(1);
        Check.due(7, "send() at 1", x.send(), 1);
        x.pay(-1);
        Check.due(7, "send() at 0 again", x.send(), Check.NOT_POSSIBLE);
        Check.due(7, "count(10)", x.count(10), 1);
        Check.due(7, "count(9)", x.count(9), 0);
        x.pay(999);
        Check.due(7, "send() at 999", x.send(), 1);
        Check.due(7, "messenger(0, 0)", x.messenger(0, 0), 999);
    }

    /** "At most 12 are on their way at a time"; "FULL if 12 are on their way". */
    private static void promise7AtMostTwelve() {
        MessengerCasts x = at(1);
        for (int i = 1; i <= 12; i++) {
            Check.due(7, "send(), " + (i - 1) + " are on their way", x.send(), i);
            Check.due(7, "count(9)", x.count(9), i);
            Check.due(7, "count(10)", x.count(10), i);
        }
        Check.due(7, "send(), 12 are on their way", x.send(), Check.FULL);
        Check.due(7, "send(), 12 are on their way", x.send(), Check.FULL);
        Check.due(7, "count(9)", x.count(9), 12);
        Check.due(7, "count(10)", x.count(10), 12);
        Check.due(7, "messenger(12, 0)", x.messenger(12, 0), NONE);
    }

    /** There is room again behind one that is gone, stopped or taken back. */
    private static void promise7RoomAgain() {
        for (int kind = 0; kind < 3; kind++) {
            MessengerCasts x = at(5);
            if (kind == 1) {
                x.pay(-5);
                x.clamp(false);
                x.pay(5);
            }
            x.send();
            x.pay(20);
            for (int i = 0; i < 11; i++) {
                x.send();
            }
            Check.due(7, "send(), 12 are on their way", x.send(), Check.FULL);
            if (kind == 2) {
                x.pay(-1);
                Check.due(7, "count(14)", x.count(14), 11);
            } else {
                x.pass(1);
                Check.due(7, "count(9)", x.count(9), 11);
            }
            Check.due(7, "send()", x.send(), kind == 2 ? 2 : 12);
            Check.due(7, "send()", x.send(), kind == 2 ? 3 : Check.FULL);
        }
    }

    private static void promise7LetLooseCountAmongTheTwelve() {
        MessengerCasts x = Check.after("+40;m;+5;!;.1");
        Check.due(8, "count(11)", x.count(11), 1);
        for (int i = 2; i <= 12; i++) {
            Check.due(7, "send()", x.send(), i);
        }
        Check.due(7, "send(), one of 12 was let loose", x.send(), Check.FULL);
        Check.due(7, "count(10)", x.count(10), 12);
    }

    /** "At a mark: that of the water". */
    private static void promise7AtTheMarkOfTheWater() {
        for (int paid : new int[] {1, 2, 500, 998, 999}) {
            MessengerCasts x = at(paid);
            x.send();
            Check.due(7, "messenger(0, 0) at " + paid, x.messenger(0, 0), paid);
            Check.due(7, "messenger(0, 1)", x.messenger(0, 1), 0);
        }
    }

    /** "1 to 999". */
    private static void promise8SecondsFrom1To999() {
        MessengerCasts x = new MessengerCasts();
        int[] bad = {0, -1, -999, 1000, 1001};
        for (int seconds : bad) {
            Check.due(8, "pass(" + seconds + ")", x.pass(seconds), Check.BAD_VALUE);
            Check.due(8, "count(0)", x.count(0), 0);
        }
        Check.due(8, "pass(1)", x.pass(1), 0);
        Check.due(8, "count(0)", x.count(0), 1);
        Check.due(8, "pass(999)", x.pass(999), 0);
        Check.due(8, "count(0)", x.count(0), 1000);
        Check.due(8, "pass(998)", x.pass(998), 0);
        Check.due(8, "count(0)", x.count(0), 1998);
    }

    private static MessengerCasts atSecond(int second) {
        MessengerCasts x = new MessengerCasts();
        int left = second;
        while (left > 0) {
            x.pass(Math.min(999, left));
            left -= Math.min(999, left);
        }
        Check.due(8, "count(0)", x.count(0), second);
        return x;
    }

    /** "FULL if the second would be beyond 99999". */
    private static void promise8NotBeyond99999() {
        int[] seconds = {99999, 99998, 99997, 99500, 99001};
        for (int second : seconds) {
            MessengerCasts x = atSecond(second);
            int left = 99999 - second;
            Check.due(8, "pass(" + (left + 1) + ") at " + second, x.pass(left + 1), Check.FULL);
            Check.due(8, "pass(999) at " + second, x.pass(999), Check.FULL);
            Check.due(8, "count(0)", x.count(0), second);
            if (left > 0) {
                Check.due(8, "pass(" + left + ") at " + second, x.pass(left), 0);
            }
            Check.due(8, "count(0)", x.count(0), 99999);
            Check.due(8, "pass(1) at 99999", x.pass(1), Check.FULL);
        }
        MessengerCasts y = atSecond(99000);
        Check.due(8, "pass(999) at 99000", y.pass(999), 0);
        Check.due(8, "count(0)", y.count(0), 99999);
        // A bottle can be shut in the last second.
        MessengerCasts z = atSecond(99998);
        Check.perform(z, "b;+5;!");
        Check.due(8, "pass(1) at 99998", z.pass(1), 1);
        Check.due(18, "bottle(0, 6)", z.bottle(0, 6), 99999);
    }

    /** A sum with the second would wrap around. */
    private static void promise8LargestAndSmallestInt() {
        int[] far = {Integer.MAX_VALUE, Integer.MAX_VALUE - 99999, Integer.MIN_VALUE, Integer.MIN_VALUE + 1, 1 << 16};
        for (int second : new int[] {0, 1, 50000, 99999}) {
            MessengerCasts x = atSecond(second);
            for (int seconds : far) {
                Check.due(8, "pass(" + seconds + ") at " + second, x.pass(seconds), Check.BAD_VALUE);
            }
            Check.due(8, "count(0)", x.count(0), second);
        }
    }

    /** "As many metres as 5, less the slope as it counts, but at least by 1". */
    private static void promise8MetresInASecond() {
        for (int counted = 0; counted <= 5; counted++) {
            for (int lost = 0; lost <= (counted >= 2 ? 1 : 0); lost++) {
                MessengerCasts x = at(300);
                x.send();
                slope(x, counted, lost == 1);
                int mark = 300;
                for (int i = 0; i < 3; i++) {
                    x.pass(1);
                    mark -= STEPS[counted];
                    Check.due(8, "messenger(0, 0), the slope counts as " + counted, x.messenger(0, 0), mark);
                }
                x.pass(20);
                Check.due(8, "messenger(0, 0) 20 on", x.messenger(0, 0), mark - 20 * STEPS[counted]);
            }
        }
    }

    /** "With a slope that counts as 6 it sticks, and stays where it is", in the water and at the mark 0. */
    private static void promise8SticksAtSix() {
        for (int lost = 0; lost <= 1; lost++) {
            MessengerCasts x = Check.after("m;+1;!;.1;+4;!;+200;!");
            slope(x, 6, lost == 1);
            for (int seconds : new int[] {1, 2, 999}) {
                Check.due(8, "pass(" + seconds + ")", x.pass(seconds), 0);
                Check.due(8, "messenger(0, 0)", x.messenger(0, 0), 0);
                Check.due(8, "messenger(1, 0)", x.messenger(1, 0), 5);
                Check.due(8, "messenger(2, 0)", x.messenger(2, 0), 205);
            }
            Check.due(8, "count(0), the seconds pass", x.count(0), 1003);
            Check.due(8, "count(9)", x.count(9), 3);
            Check.due(8, "count(12)", x.count(12), 1);
            Check.due(8, "count(13)", x.count(13), 0);
            x.setSlope(lost == 1 ? 3 : 5);
            x.pass(1);
            Check.due(8, "count(13), they go on", x.count(13), 1);
            Check.due(8, "messenger(0, 0)", x.messenger(0, 0), 4);
            Check.due(8, "messenger(1, 0)", x.messenger(1, 0), 204);
        }
        MessengerCasts y = Check.after("b;+1;!;/4");
        y.weight(true);
        y.setSlope(5);
        Check.due(8, "pass(9), 7 counts as 6", y.pass(9), 0);
        Check.due(8, "messenger(0, 0)", y.messenger(0, 0), 1);
    }

    /** "Not less than that at which it would be": with each step, a bottle just there and one just below. */
    private static void promise8StrikesUpToWhereItWouldBe() {
        for (int counted = 0; counted <= 5; counted++) {
            for (int d = 1; d <= 8; d++) {
                for (int mark = 0; mark <= 40; mark += 20) {
                    MessengerCasts x = at(mark);
                    x.clamp(false);
                    x.pay(d);
                    x.send();
                    slope(x, counted, false);
                    boolean isStruck = d <= STEPS[counted];
                    Check.due(8, "pass(1), " + d + " above, slope " + counted, x.pass(1), isStruck ? 1 : 0);
                    Check.due(8, "count(9)", x.count(9), isStruck ? 0 : 1);
                    Check.due(8, "count(12)", x.count(12), isStruck ? 1 : 0);
                    Check.due(8, "count(13)", x.count(13), 0);
                    Check.due(8, "messenger(0, 0)", x.messenger(0, 0), isStruck ? NONE : mark + d - STEPS[counted]);
                    if (!isStruck) {
                        int more = (d + STEPS[counted] - 1) / STEPS[counted] - 1;
                        Check.due(8, "pass(" + more + ")", x.pass(more), 1);
                        Check.due(8, "bottle(0, 6)", x.bottle(0, 6), 1 + more);
                    }
                }
            }
        }
    }

    /** "Less than the mark at which it was": a bottle at the messenger's own mark is not struck. */
    private static void promise8StrikesBelowWhereItWas() {
        for (int counted = 0; counted <= 5; counted++) {
            MessengerCasts x = at(50);
            x.clamp(false);
            x.send();
            x.pay(10);
            slope(x, counted, false);
            Check.due(8, "pass(1)", x.pass(1), 0);
            Check.due(8, "bottle(0, 5), slope " + counted, x.bottle(0, 5), 0);
            Check.due(8, "messenger(0, 0)", x.messenger(0, 0), 50 - STEPS[counted]);
            x.pass(50);
            Check.due(8, "bottle(0, 5)", x.bottle(0, 5), 0);
            // Nor is one above it, though it is in the water.
            MessengerCasts y = at(50);
            y.send();
            y.pay(1);
            y.clamp(false);
            y.pay(10);
            slope(y, counted, false);
            Check.due(8, "pass(99)", y.pass(99), 0);
            Check.due(8, "bottle(0, 3)", y.bottle(0, 3), 0);
            // Nor a let-loose one its own bottle.
            MessengerCasts z = at(50);
            z.clamp(true);
            z.pay(1);
            z.send();
            slope(z, counted, false);
            z.pass(1);
            z.pass(1);
            Check.due(8, "bottle(0, 5) of the one that let it loose", z.bottle(0, 5), 1);
        }
    }

    /** "The one of these with the greatest mark": the next below, with bottles as near as can be. */
    private static void promise8StrikesTheGreatestMark() {
        MessengerCasts x = Check.after("b;+5;b;+5;b;+5;b;+4;!");
        Check.due(8, "pass(1)", x.pass(1), 1);
        for (int i = 0; i < 4; i++) {
            Check.due(8, "bottle(" + i + ", 5)", x.bottle(i, 5), i == 3 ? 1 : 0);
        }
        x.pass(50);
        for (int i = 0; i < 4; i++) {
            Check.due(8, "bottle(" + i + ", 5) later", x.bottle(i, 5), i == 3 ? 1 : 0);
        }
        for (int from = 1; from <= 10; from++) {
            MessengerCasts y = Check.after("+20;b;+5;b;+" + from + ";!");
            y.pass(2);
            Check.due(8, "bottle(1, 5), from " + from + " above", y.bottle(1, 5), 1);
            Check.due(8, "bottle(0, 5)", y.bottle(0, 5), 0);
        }
    }

    /** "And stops there for good", also if the bottle is taken off. */
    private static void promise8StopsForGood() {
        MessengerCasts x = Check.after("+5;b;+15;b;+5;!;.1");
        Check.due(8, "count(9)", x.count(9), 0);
        x.pass(99);
        Check.due(8, "bottle(0, 3)", x.bottle(0, 3), 0);
        x.pay(-5);
        x.takeOff(1);
        x.pay(30);
        x.pass(99);
        Check.due(8, "bottle(0, 3)", x.bottle(0, 3), 0);
        Check.due(8, "count(12)", x.count(12), 1);
        Check.due(8, "count(9)", x.count(9), 0);
        Check.due(8, "count(14), it is not taken back", x.count(14), 0);
    }

    /** "Otherwise, if its mark would be 0 or less, it is gone." */
    private static void promise8GoneAtNoughtOrLess() {
        for (int counted = 0; counted <= 5; counted++) {
            for (int mark = 1; mark <= 12; mark++) {
                MessengerCasts x = at(mark);
                x.send();
                slope(x, counted, false);
                x.pass(1);
                int left = mark - STEPS[counted];
                String where = " from " + mark + ", slope " + counted;
                Check.due(8, "count(9)" + where, x.count(9), left > 0 ? 1 : 0);
                Check.due(8, "count(13)" + where, x.count(13), left > 0 ? 0 : 1);
                Check.due(8, "messenger(0, 0)" + where, x.messenger(0, 0), left > 0 ? left : NONE);
                Check.due(8, "count(12)" + where, x.count(12), 0);
            }
        }
    }

    /** A bottle at the mark 0 is struck by one that would be at 0 or less: it is not gone. */
    private static void promise8BottleAtNoughtIsStruck() {
        for (int counted = 0; counted <= 5; counted++) {
            for (int mark = 1; mark <= STEPS[counted]; mark++) {
                MessengerCasts x = Check.after("b;+" + mark + ";!");
                slope(x, counted, false);
                Check.due(8, "pass(1) from " + mark + ", slope " + counted, x.pass(1), 1);
                Check.due(8, "count(12)", x.count(12), 1);
                Check.due(8, "count(13)", x.count(13), 0);
            }
        }
    }

    /** "A shut one is only struck": it lets none loose, and keeps what it kept. */
    private static void promise8ShutOneIsOnlyStruck() {
        MessengerCasts x = Check.after("+50;m;+5;!;.1;+5;!;.1");
        int[] kept = new int[8];
        for (int i = 0; i < 8; i++) {
            kept[i] = x.bottle(0, 6 + i);
        }
        x.setWater(0, 7, 7);
        Check.due(8, "pass(1), it is struck again", x.pass(1), 0);
        Check.due(8, "bottle(0, 5)", x.bottle(0, 5), 2);
        Check.due(8, "count(11)", x.count(11), 1);
        Check.due(8, "count(9), that which was let loose", x.count(9), 1);
        for (int i = 0; i < 8; i++) {
            Check.due(8, "bottle(0, " + (6 + i) + ") stays", x.bottle(0, 6 + i), kept[i]);
        }
        // Shut by the jerk, its messenger hangs there still.
        MessengerCasts y = Check.after("m;+300;/1;!;.75");
        Check.due(8, "bottle(0, 5)", y.bottle(0, 5), 1);
        Check.due(8, "bottle(0, 4)", y.bottle(0, 4), 1);
        Check.due(8, "count(11)", y.count(11), 0);
        Check.due(8, "count(9)", y.count(9), 0);
        // One without a messenger lets none loose.
        MessengerCasts z = Check.after("+50;b;+5;!;.1");
        Check.due(8, "count(11)", z.count(11), 0);
        Check.due(8, "count(9)", z.count(9), 0);
    }

    /** "One that is let loose in a second goes on from the next one on." */
    private static void promise8LetLooseGoesOnFromTheNextSecond() {
        for (int counted = 0; counted <= 5; counted++) {
            MessengerCasts x = Check.after("+50;m;+1;!");
            slope(x, counted, false);
            Check.due(8, "pass(1)", x.pass(1), 1);
            Check.due(8, "messenger(0, 0), in that second", x.messenger(0, 0), 50);
            Check.due(8, "bottle(0, 4)", x.bottle(0, 4), 0);
            Check.due(8, "count(11)", x.count(11), 1);
            x.pass(1);
            Check.due(8, "messenger(0, 0), in the next one", x.messenger(0, 0), 50 - STEPS[counted]);
            // The one below, five metres off, is not shut in the same second either.
            MessengerCasts y = Check.after("+50;m;+5;m;+1;!");
            slope(y, counted, false);
            Check.due(8, "pass(1)", y.pass(1), 1);
            Check.due(8, "bottle(1, 6)", y.bottle(1, 6), 1);
            y.pass(5);
            Check.due(8, "bottle(0, 6)", y.bottle(0, 6), 1 + (5 + STEPS[counted] - 1) / STEPS[counted]);
        }
    }

    /** One let loose at the mark 0 is on its way there, and gone in the next second. */
    private static void promise8LetLooseAtNought() {
        for (int counted = 0; counted <= 5; counted++) {
            MessengerCasts x = Check.after("m;+1;!");
            slope(x, counted, false);
            Check.due(8, "pass(1)", x.pass(1), 1);
            Check.due(8, "count(9)", x.count(9), 1);
            Check.due(8, "messenger(0, 0)", x.messenger(0, 0), 0);
            Check.due(8, "count(13)", x.count(13), 0);
            Check.due(8, "pass(1)", x.pass(1), 0);
            Check.due(8, "count(9)", x.count(9), 0);
            Check.due(8, "count(13)", x.count(13), 1);
            Check.due(8, "count(12)", x.count(12), 1);
            Check.due(8, "bottle(0, 5)", x.bottle(0, 5), 1);
        }
    }

    /** Twelve at once: the first shuts the bottle and lets one loose, the others only strike. */
    private static void promise8TwelveOnOneBottle() {
        MessengerCasts x = Scenes.twelveMessengers().play();
        Check.due(8, "count(9)", x.count(9), 12);
        Check.due(8, "pass(9), the first three come to it", x.pass(9), 1);
        Check.due(8, "count(9)", x.count(9), 10);
        Check.due(8, "count(11)", x.count(11), 1);
        Check.due(8, "messenger(0, 0)", x.messenger(0, 0), 0);
        Check.due(8, "messenger(1, 0)", x.messenger(1, 0), 5);
        Check.due(8, "messenger(9, 0)", x.messenger(9, 0), 5);
        Check.due(8, "pass(1)", x.pass(1), 0);
        Check.due(8, "count(9)", x.count(9), 0);
        Check.due(8, "bottle(0, 5)", x.bottle(0, 5), 12);
        Check.due(8, "count(12)", x.count(12), 12);
        Check.due(8, "count(13)", x.count(13), 1);
        // Eleven and one that is let loose are twelve still: there is no room for a thirteenth.
        MessengerCasts y = Check.after("+50;m;+5;!;+9;!;!;!;!;!;!;!;!;!;!;!");
        Check.due(8, "pass(1)", y.pass(1), 1);
        Check.due(8, "count(9)", y.count(9), 12);
        Check.due(7, "send()", y.send(), Check.FULL);
        Check.due(8, "messenger(0, 0)", y.messenger(0, 0), 50);
        Check.due(8, "messenger(11, 0)", y.messenger(11, 0), 59);
    }

    /** In one second some strike, some are gone, some go on. */
    private static void promise8SeveralInOneSecond() {
        MessengerCasts x = Check.after("+4;!;+8;m;+3;!;+20;b;+2;!;+20;!");
        Check.due(8, "pass(1)", x.pass(1), 2);
        Check.due(8, "count(13)", x.count(13), 1);
        Check.due(8, "count(12)", x.count(12), 2);
        Check.due(8, "count(11)", x.count(11), 1);
        Check.due(8, "count(9)", x.count(9), 2);
        Check.due(8, "messenger(0, 0)", x.messenger(0, 0), 12);
        Check.due(8, "messenger(1, 0)", x.messenger(1, 0), 52);
        Check.due(8, "bottle(0, 6)", x.bottle(0, 6), 1);
        Check.due(8, "bottle(1, 6)", x.bottle(1, 6), 1);
    }

    /** "Returns how many bottles are shut in them": not those shut before, nor those struck again. */
    private static void promise8AnswersHowManyAreShut() {
        String ten = "m;+5;m;+5;m;+5;m;+5;m;+5;m;+5;m;+5;m;+5;m;+5;m;+5;!";
        for (int seconds = 1; seconds <= 12; seconds++) {
            MessengerCasts x = Check.after(ten);
            Check.due(8, "pass(" + seconds + ")", x.pass(seconds), Math.min(10, seconds));
            Check.due(8, "pass(1) behind it", x.pass(1), seconds < 10 ? 1 : 0);
            x.send();
            Check.due(8, "pass(1), struck again", x.pass(1), seconds < 9 ? 1 : 0);
        }
        MessengerCasts y = Check.after("b;+300");
        Check.due(8, "pass(1), shut by the jerk before", y.pass(1), 0);
    }

    /** However many seconds pass at once, all is as if they passed one by one. */
    private static void promise8ManySecondsAsOneByOne() {
        for (int counted = 0; counted <= 6; counted++) {
            Scene start = Scenes.rich().and(x -> x.send());
            int slope = counted;
            start = start.and(x -> x.setSlope(slope)).and(x -> x.set(0, 0));
            for (int seconds : new int[] {2, 3, 10, 41}) {
                Look.same(8, "behind pass(" + seconds + "), slope " + counted,
                    start.and(x -> x.pass(seconds)).told(), start.times(seconds, x -> x.pass(1)).told(),
                    "count(17)");
            }
        }
    }

    /** "BAD_VALUE (rank is negative..); NONE if there are not so many". */
    private static void promise19Ranks() {
        int[] far = {12, 13, 100, Integer.MAX_VALUE, 1 << 16};
        int[] negative = {-1, -12, Integer.MIN_VALUE};
        for (int sent = 0; sent <= 12; sent++) {
            MessengerCasts x = at(20);
            for (int i = 0; i < sent; i++) {
                x.send();
            }
            for (int what = 0; what <= 1; what++) {
                for (int rank : far) {
                    Check.due(19, "messenger(" + rank + ", " + what + ") of " + sent, x.messenger(rank, what), NONE);
                }
                for (int rank : negative) {
                    int told = x.messenger(rank, what);
                    Check.due(19, "messenger(" + rank + ", " + what + ") of " + sent, told, Check.BAD_VALUE);
                }
                Check.due(19, "messenger(" + sent + ", " + what + ") of as many", x.messenger(sent, what), NONE);
                if (sent > 0) {
                    int due = what == 0 ? 20 : 0;
                    Check.due(19, "messenger(the last, " + what + ")", x.messenger(sent - 1, what), due);
                    Check.due(19, "messenger(0, " + what + ")", x.messenger(0, what), due);
                }
            }
        }
    }

    private static void promise19What() {
        int[] far = {-1, 2, Integer.MIN_VALUE, Integer.MAX_VALUE, 3};
        MessengerCasts x = Check.after("+20;!;+3");
        for (int what : far) {
            Check.due(19, "messenger(0, " + what + ")", x.messenger(0, what), Check.BAD_VALUE);
            Check.due(19, "messenger(1, " + what + "), not so many", x.messenger(1, what), Check.BAD_VALUE);
        }
        Check.due(19, "messenger(0, 0)", x.messenger(0, 0), 20);
        Check.due(19, "messenger(0, 1)", x.messenger(0, 1), 3);
    }

    /** "Those with the least marks first": one that is let loose comes before those above it. */
    private static void promise19LeastMarksFirst() {
        MessengerCasts x = Check.after("+30;m;+30;m;+30;!;.3;!;.3;!;.1");
        // The first one is let loose at 60 in the second 6, and at 55 now; behind it are 70 and 85.
        int[] marks = {55, 70, 85};
        for (int i = 0; i < 3; i++) {
            Check.due(19, "messenger(" + i + ", 0)", x.messenger(i, 0), marks[i]);
        }
        x.pass(4);
        int[] later = {35, 65};
        Check.due(19, "count(9)", x.count(9), 2);
        for (int i = 0; i < 2; i++) {
            Check.due(19, "messenger(" + i + ", 0) later", x.messenger(i, 0), later[i]);
        }
        Check.due(19, "messenger(2, 0)", x.messenger(2, 0), NONE);
        // Twelve by rising marks.
        MessengerCasts y = at(100);
        for (int i = 0; i < 12; i++) {
            y.send();
            y.pass(1);
        }
        for (int i = 0; i < 12; i++) {
            Check.due(19, "messenger(" + i + ", 0) of twelve", y.messenger(i, 0), 40 + 5 * i);
            Check.due(19, "messenger(" + i + ", 1) of twelve", y.messenger(i, 1), 60 - 5 * i);
        }
    }

    private static void promise19HowDeep() {
        for (int slope = 0; slope <= 6; slope++) {
            MessengerCasts x = Check.after("+50;!;+100;+100;+100;+150;+100;+100;+100;+100;!;/" + slope);
            Check.due(19, "messenger(0, 1), slope " + slope, x.messenger(0, 1), x.depth(850, slope));
            Check.due(19, "messenger(1, 1), at the water", x.messenger(1, 1), 0);
            x.pay(99);
            Check.due(19, "messenger(0, 1), slope " + slope, x.messenger(0, 1), x.depth(949, slope));
            Check.due(19, "messenger(1, 1), 99 below it", x.messenger(1, 1), x.depth(99, slope));
        }
    }
}
