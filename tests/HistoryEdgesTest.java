/** The boundary cases of promises 15 to 17, and of "HISTORY", each sentence in a method of its own. */
public final class HistoryEdgesTest {
    private static final Scene.Call[] ACTS = {x -> x.pay(1), x -> x.setSlope(2), x -> x.weight(true),
        x -> x.clamp(true), x -> x.takeOff(4), x -> x.send(), x -> x.pass(1), x -> x.setWater(3, -20, 0),
        x -> x.set(0, 0), x -> x.perform(), x -> x.restore()};
    private static final String[] NAMES = {"pay", "setSlope", "weight", "clamp", "takeOff", "send", "pass",
        "setWater", "set", "perform", "restore"};

    public static void main(String[] args) {
        promise15EmptyHistory();
        promise15AtMostFour();
        promise15TheOldestIsDropped();
        promise15EachActIsRecordedOnce();
        promise15EachActIsTakenBack();
        promise15ShutOnesAreBroughtBack();
        promise15UndoIsNoAct();
        promise15WhatIsNoState();
        promise16IsNoAct();
        promise16InPlaceOfTheOneThatWas();
        promise16HowManyBottles();
        promise17NoSnapshot();
        promise17TheSnapshotStays();
        promise17IsAnAct();
        promise17WhatIsNoState();
        promise17HowManyBottles();
        Check.finish("HistoryEdgesTest");
    }

    /** "NONE if the history is empty". */
    private static void promise15EmptyHistory() {
        MessengerCasts x = new MessengerCasts();
        Check.due(15, "undo() at first", x.undo(), Check.NONE);
        x.pay(1);
        Check.due(15, "undo()", x.undo(), 0);
        Check.due(15, "undo() of nothing any more", x.undo(), Check.NONE);
        Check.due(15, "undo() of nothing any more", x.undo(), Check.NONE);
        x.pay(1);
        Check.due(15, "count(17)", x.count(17), 1);
        Check.due(15, "undo()", x.undo(), 0);
    }

    /** "At most 4 states"; "the number of states that are left". */
    private static void promise15AtMostFour() {
        for (int acts = 0; acts <= 12; acts++) {
            MessengerCasts x = new MessengerCasts();
            for (int i = 0; i < acts; i++) {
                x.pay(1);
                Check.due(15, "count(17) behind " + (i + 1), x.count(17), Math.min(4, i + 1));
            }
            for (int left = Math.min(4, acts) - 1; left >= 0; left--) {
                Check.due(15, "undo()", x.undo(), left);
                Check.due(15, "count(17)", x.count(17), left);
            }
            Check.due(15, "undo() of nothing any more", x.undo(), Check.NONE);
        }
    }

    /** "When one more is recorded, the oldest one is dropped; undo() removes and restores the latest one." */
    private static void promise15TheOldestIsDropped() {
        for (int acts = 1; acts <= 12; acts++) {
            MessengerCasts x = new MessengerCasts();
            for (int i = 0; i < acts; i++) {
                x.pay(1 + i);
            }
            int paid = acts * (acts + 1) / 2;
            for (int i = 0; i < Math.min(4, acts); i++) {
                Check.due(15, "count(1) behind " + i + " undo()", x.count(1), paid);
                x.undo();
                paid -= acts - i;
            }
            Check.due(15, "count(1) at the end", x.count(1), paid);
            x.undo();
            Check.due(15, "count(1) at the end", x.count(1), paid);
        }
        // Undo and act in turn, and at the limit.
        MessengerCasts y = Check.after("+1");
        for (int i = 0; i < 10; i++) {
            y.pay(2);
            y.pay(3);
            y.undo();
        }
        Check.due(15, "count(1)", y.count(1), 21);
        Check.due(15, "count(17)", y.count(17), 4 - 1);
        y.undo();
        Check.due(15, "count(1)", y.count(1), 19);
        y.undo();
        y.undo();
        Check.due(15, "count(1)", y.count(1), 15);
        Check.due(15, "undo()", y.undo(), Check.NONE);
    }

    /** Each of the acts can be done there; there are four states. */
    private static Scene base() {
        return Scenes.rich().and(x -> x.pay(-15));
    }

    /** As the base, with so many states: behind four acts and four undo() there is none. */
    private static Scene baseWith(int states) {
        Scene scene = base().and(x -> x.keep());
        for (int i = 1; i <= 4 + states; i++) {
            int warmth = i;
            scene = i == 5 ? scene.times(4, x -> x.undo()) : scene;
            scene = scene.and(x -> x.setWater(9, warmth, 9));
        }
        return (states == 0 ? scene.times(4, x -> x.undo()) : scene).text("/5;.3");
    }

    /** "Each call of a method that is described as an act, and returns no error and not NONE". */
    private static void promise15EachActIsRecordedOnce() {
        for (int i = 0; i < ACTS.length; i++) {
            for (int states = 0; states <= 4; states++) {
                Scene start = baseWith(states);
                Check.due(15, "count(17)", start.play().count(17), states);
                Scene acted = start.and(ACTS[i]);
                Check.due(15, NAMES[i] + " is done", acted.answer() > -1001 ? 1 : 0, 1);
                Check.due(15, "count(17) behind " + NAMES[i], acted.play().count(17), Math.min(4, states + 1));
                Scene undone = acted.and(x -> x.undo());
                Check.due(15, "undo() of " + NAMES[i], undone.answer(), Math.min(4, states + 1) - 1);
                Look.same(15, "behind undo() of " + NAMES[i], undone.told(), start.told(), "count(17)");
            }
        }
    }

    /** "Records the state that was before it": undo() brings back all of it, whatever the act was. */
    private static void promise15EachActIsTakenBack() {
        for (int i = 0; i < ACTS.length; i++) {
            Scene start = base().text("/5;+70;b;!;.99");
            Scene acted = start.and(ACTS[i]);
            Check.due(15, NAMES[i] + " changes something",
                Look.isSame(acted.told(), start.told(), "count(17)") ? 1 : 0, 0);
            Scene undone = acted.and(x -> x.undo());
            Check.due(15, "undo() of " + NAMES[i], undone.answer(), 3);
            Look.same(15, "behind undo() of " + NAMES[i], undone.told(), start.told(), "count(17)");
            for (int j = 0; j < ACTS.length; j++) {
                Scene two = acted.and(ACTS[j]);
                if (two.answer() > -1001) {
                    String name = "undo() of " + NAMES[i] + " and " + NAMES[j];
                    Look.same(15, "behind " + name, two.times(2, x -> x.undo()).told(), start.told(), "count(17)");
                    Look.same(15, "behind one " + name, two.and(x -> x.undo()).told(), acted.told(), "count(17)");
                }
            }
        }
    }

    /** What a shut bottle kept is part of a state: others that are shut in its place leave nothing behind. */
    private static void promise15ShutOnesAreBroughtBack() {
        // Two shut by the jerk at the slope 2, one by a messenger at the slope 1, in other water.
        Scene shut = Scene.NEW.cast("m;+101;b;+50;b;/2;+99;-1")
            .and(x -> x.set(0, 9)).and(x -> x.set(1, 30)).cast("+31;-31").and(x -> x.set(1, 999))
            .and(x -> x.setWater(0, 33, 44)).cast("!;/1;.99;/3").and(x -> x.keep());
        MessengerCasts y = shut.play();
        for (int i = 0; i < 3; i++) {
            Check.due(15, "bottle(" + i + ", 3)", y.bottle(i, 3), 1);
            Check.due(15, "bottle(" + i + ", 13)", y.bottle(i, 13), i < 2 ? 1 : 0);
        }
        Scene hauled = shut.cast("/5;-249");
        Scene bare = hauled.and(x -> x.takeOff(0)).and(x -> x.takeOff(1)).and(x -> x.takeOff(0));
        Check.due(6, "takeOff(0), the last", bare.answer(), 0);
        Look.same(15, "behind three takeOff and undo()", bare.times(3, x -> x.undo()).told(), hauled.told(), "count(17)");
        Look.same(17, "behind three takeOff and restore()", bare.and(x -> x.restore()).told(), shut.told(), "count(17)",
            "count(18)");
        // Others in their places, shut otherwise.
        Scene others = bare.cast("/4;m;+300;m;+40;m;+60;m;+9;!;.409;/0");
        Check.due(13, "perform()", others.answer(), 12);
        Check.due(8, "count(7)", others.play().count(7), 4);
        Check.due(20, "layer(3, 3)", others.play().layer(3, 3), 1);
        Look.same(15, "behind others and undo()", others.times(4, x -> x.undo()).told(), hauled.told(), "count(17)",
            "count(18)");
        Look.same(17, "behind others and restore()", others.and(x -> x.restore()).told(), shut.told(), "count(17)",
            "count(18)");
        // All ten shut, and brought back one by one.
        Scene ten = Scenes.tenBottles().and(x -> x.set(1, 1)).and(x -> x.pay(500));
        for (int i = 0; i < 9; i++) {
            int metres = i % 2 == 0 ? -20 - i : 25 + i;
            ten = ten.and(x -> x.pay(metres));
        }
        Check.due(15, "count(7)", ten.play().count(7), 10);
        Scene one = ten;
        for (int i = 1; i <= 4; i++) {
            one = one.and(x -> x.undo());
            Check.due(15, "count(7) behind undo() number " + i, one.play().count(7), 10 - i);
            for (int j = 0; j < 10 - i; j++) {
                for (int what = 6; what <= 13; what++) {
                    Check.due(15, "bottle(" + j + ", " + what + ")", one.play().bottle(j, what),
                        ten.play().bottle(j, what));
                }
            }
            Check.due(15, "bottle(" + (10 - i) + ", 6), open again", one.play().bottle(10 - i, 6), Check.NONE);
        }
    }

    /** Nothing is recorded by undo(): what it took back is lost. */
    private static void promise15UndoIsNoAct() {
        MessengerCasts x = Check.after("+1");
        x.pay(2);
        x.pay(3);
        Check.due(15, "undo()", x.undo(), 2);
        Check.due(15, "undo()", x.undo(), 1);
        Check.due(15, "count(1)", x.count(1), 1);
        Check.due(15, "undo()", x.undo(), 0);
        Check.due(15, "count(1)", x.count(1), 0);
        Check.due(15, "undo()", x.undo(), Check.NONE);
    }

    /** "A state is everything but the text, the history, the snapshot and the latest stop." */
    private static void promise15WhatIsNoState() {
        MessengerCasts x = Check.after("+10");
        Check.perform(x, "+1;-99");
        x.clearText();
        x.type('b');
        x.pay(1);
        x.type(';');
        x.type('!');
        Check.due(15, "undo()", x.undo(), 1);
        Check.due(15, "count(18), the text is no part of it", x.count(18), 3);
        Check.due(15, "stopped(0), the stop is no part of it", x.stopped(0), 1);
        Check.due(15, "perform()", x.perform(), 2);
        // A stop behind the act stays behind its undo().
        Check.perform(x, "-11");
        x.undo();
        Check.due(15, "stopped(0)", x.stopped(0), 0);
        // A snapshot that was taken behind the act stays behind its undo().
        MessengerCasts y = Check.after("+10");
        y.clamp(true);
        y.keep();
        y.undo();
        Check.due(15, "count(5)", y.count(5), 0);
        Check.due(17, "restore()", y.restore(), 1);
        Check.due(17, "count(5)", y.count(5), 1);
        Check.due(17, "bottle(0, 4)", y.bottle(0, 4), 1);
        Check.due(17, "undo() of restore()", y.undo(), 1);
        Check.due(17, "count(5)", y.count(5), 0);
    }

    private static void promise16IsNoAct() {
        for (int states = 0; states <= 4; states++) {
            MessengerCasts x = new MessengerCasts();
            for (int i = 0; i < states; i++) {
                x.pay(7);
            }
            Check.due(16, "keep()", x.keep(), 0);
            Check.due(16, "keep()", x.keep(), 0);
            Check.due(16, "count(17)", x.count(17), states);
            Check.due(16, "undo()", x.undo(), states == 0 ? Check.NONE : states - 1);
            Check.due(16, "count(1)", x.count(1), states == 0 ? 0 : 7 * states - 7);
        }
    }

    /** "In place of the one that was": there is one snapshot. */
    private static void promise16InPlaceOfTheOneThatWas() {
        MessengerCasts x = new MessengerCasts();
        for (int i = 1; i <= 6; i++) {
            x.pay(10);
            x.keep();
        }
        x.pay(5);
        Check.due(17, "restore()", x.restore(), 0);
        Check.due(17, "count(1)", x.count(1), 60);
        x.pay(-55);
        x.keep();
        x.pay(99);
        Check.due(17, "restore()", x.restore(), 0);
        Check.due(17, "count(1)", x.count(1), 5);
    }

    private static void promise16HowManyBottles() {
        MessengerCasts x = new MessengerCasts();
        for (int i = 0; i <= 10; i++) {
            Check.due(16, "keep() with " + i, x.keep(), i);
            x.clamp(false);
            x.pay(5);
        }
        x.pay(-55);
        x.takeOff(0);
        Check.due(16, "keep(), one was taken off", x.keep(), 9);
    }

    /** "NONE if there is no snapshot"; "one snapshot, empty at first". */
    private static void promise17NoSnapshot() {
        MessengerCasts x = new MessengerCasts();
        Check.due(17, "restore() at first", x.restore(), Check.NONE);
        x.pay(5);
        Check.due(17, "restore(), nothing was kept", x.restore(), Check.NONE);
        Check.due(17, "count(1)", x.count(1), 5);
        Check.due(17, "count(17)", x.count(17), 1);
        x.undo();
        Check.due(17, "restore(), nothing was kept", x.restore(), Check.NONE);
        // A snapshot of the new object is a snapshot.
        x.keep();
        x.pay(9);
        Check.due(17, "restore()", x.restore(), 0);
        Check.due(17, "count(1)", x.count(1), 0);
    }

    /** "The snapshot, which stays", whatever is done behind it. */
    private static void promise17TheSnapshotStays() {
        Scene kept = base().and(x -> x.keep());
        Scene scene = kept;
        for (int i = 0; i < ACTS.length; i++) {
            scene = scene.and(ACTS[i]);
            Look.same(17, "behind " + NAMES[i] + " and restore()", scene.and(x -> x.restore()).told(), kept.told(),
                "count(17)", "count(18)");
            Look.same(17, "behind " + NAMES[i] + " and two restore()", scene.times(2, x -> x.restore()).told(),
                kept.told(), "count(17)", "count(18)");
        }
        Scene undone = kept.times(4, x -> x.undo()).and(x -> x.restore());
        Look.same(17, "behind four undo() and restore()", undone.told(), kept.told(), "count(17)");
    }

    private static void promise17IsAnAct() {
        for (int states = 0; states <= 4; states++) {
            MessengerCasts x = new MessengerCasts();
            x.keep();
            for (int i = 0; i < states; i++) {
                x.pay(7);
            }
            Check.due(17, "restore()", x.restore(), 0);
            Check.due(17, "count(17)", x.count(17), Math.min(4, states + 1));
            Check.due(17, "count(1)", x.count(1), 0);
            Check.due(17, "undo()", x.undo(), Math.min(4, states + 1) - 1);
            Check.due(17, "count(1)", x.count(1), 7 * states);
        }
        // One that changes nothing is recorded, too.
        MessengerCasts y = new MessengerCasts();
        y.keep();
        Check.due(17, "restore()", y.restore(), 0);
        Check.due(17, "restore()", y.restore(), 0);
        Check.due(17, "count(17)", y.count(17), 2);
    }

    private static void promise17WhatIsNoState() {
        MessengerCasts x = Check.after("+10;b");
        x.keep();
        x.pay(1);
        x.pay(1);
        Check.perform(x, "/1;!;-99");
        x.type('?');
        Check.due(17, "restore()", x.restore(), 1);
        Check.due(17, "count(18), the text is no part of it", x.count(18), 9);
        Check.due(17, "stopped(0), the stop is no part of it", x.stopped(0), 2);
        Check.due(17, "count(17), the history is no part of it", x.count(17), 4);
        x.undo();
        x.undo();
        x.undo();
        Check.due(17, "count(1)", x.count(1), 10);
        Check.due(17, "undo(), the history from before keep()", x.undo(), 0);
        Check.due(17, "count(1)", x.count(1), 0);
    }

    private static void promise17HowManyBottles() {
        for (int i = 0; i <= 10; i++) {
            MessengerCasts x = new MessengerCasts();
            for (int j = 0; j < i; j++) {
                x.clamp(true);
                x.pay(5);
            }
            x.keep();
            if (i < 10) {
                x.clamp(false);
            } else {
                x.takeOff(9);
            }
            Check.due(17, "restore() of " + i, x.restore(), i);
            Check.due(17, "count(5)", x.count(5), i);
            Check.due(17, "bottle(" + i + ", 0)", x.bottle(i, 0), Check.UNKNOWN);
        }
    }
}
