/** The boundary cases of promise 26: each number at its least and at its most. */
public final class CountEdgesTest {
    public static void main(String[] args) {
        promise26WhatFromNoughtTo18();
        promise26AllAtFirst();
        promise26TheSecond();
        promise26TheCable();
        promise26Bottles();
        promise26ShutAndDoubtful();
        promise26TakenOff();
        promise26Messengers();
        promise26SettingsHistoryText();
        promise26UndoTakesTheAccountsBack();
        promise26AccountsAddUp();
        Check.finish("CountEdgesTest");
    }

    private static void counts(String behind, MessengerCasts x, int... due) {
        for (int i = 0; i < due.length; i += 2) {
            Check.due(26, "count(" + due[i] + ") " + behind, x.count(due[i]), due[i + 1]);
        }
    }

    private static void promise26WhatFromNoughtTo18() {
        int[] far = {-1, 19, Integer.MIN_VALUE, Integer.MAX_VALUE, -18, 20, 1 << 16};
        for (MessengerCasts x : new MessengerCasts[] {new MessengerCasts(), Scenes.rich().play()}) {
            for (int what : far) {
                Check.due(26, "count(" + what + ")", x.count(what), Check.BAD_VALUE);
            }
            for (int what = 0; what <= 18; what++) {
                Check.due(26, "count(" + what + ") is no error", x.count(what) >= 0 ? 1 : 0, 1);
            }
        }
    }

    private static void promise26AllAtFirst() {
        int[] due = {0, 0, 0, 0, 0, 0, 0, 0, 0, 0, 0, 0, 0, 0, 0, 20, 200, 0, 0};
        MessengerCasts x = new MessengerCasts();
        for (int i = 0; i < due.length; i++) {
            Check.due(26, "count(" + i + ") at first", x.count(i), due[i]);
        }
        // And in scenes in which most are others.
        int[] rich = {32, 190, 1, 1, 0, 6, 4, 2, 0, 2, 3, 0, 1, 0, 0, 3, 50, 4, 10};
        MessengerCasts y = Scenes.rich().play();
        for (int i = 0; i < rich.length; i++) {
            Check.due(26, "count(" + i + ") in the rich scene", y.count(i), rich[i]);
        }
        int[] lost = {3, 150, 2, 4, 1, 1, 1, 0, 0, 1, 1, 0, 0, 0, 0, 20, 200, 2, 18};
        MessengerCasts z = Scenes.lost().play();
        for (int i = 0; i < lost.length; i++) {
            Check.due(26, "count(" + i + ") in the lost scene", z.count(i), lost[i]);
        }
    }

    private static void promise26TheSecond() {
        counts("at the last second", Scenes.atSecond(99999).play(), 0, 99999);
        counts("ahead of it", Scenes.atSecond(99998).play(), 0, 99998);
        counts("behind one", Scene.NEW.and(x -> x.pass(1)).play(), 0, 1);
    }

    private static void promise26TheCable() {
        MessengerCasts x = new MessengerCasts();
        x.pay(999);
        counts("all is out", x, 1, 999, 2, 0, 3, 0, 4, 0);
        x.weight(true);
        counts("the weight is lost", x, 2, 0, 3, 2, 4, 1);
        x.setSlope(6);
        counts("at the slope 6", x, 2, 6, 3, 6, 4, 1);
        x.setSlope(4);
        counts("at the slope 4", x, 2, 4, 3, 6, 4, 1);
        x.setSlope(3);
        counts("at the slope 3", x, 2, 3, 3, 5, 4, 1);
        x.pay(-999);
        x.weight(false);
        counts("it hangs again", x, 1, 0, 2, 3, 3, 3, 4, 0);
    }

    /** "5 for bottles, 6 for those in the water". */
    private static void promise26Bottles() {
        MessengerCasts x = Scenes.tenBottles().play();
        counts("the tenth is at the water", x, 5, 10, 6, 9, 7, 0, 8, 0);
        x.pay(1);
        counts("all are in the water", x, 5, 10, 6, 10);
        for (int paid = 45; paid >= 0; paid--) {
            x.pay(-1);
            counts("with " + paid + " out", x, 5, 10, 6, (paid + 4) / 5);
        }
        for (int left = 9; left >= 0; left--) {
            x.takeOff(left / 2);
            counts("taken off", x, 5, left, 6, 0);
        }
    }

    /** "7 for those that are shut, 8 for doubtful ones". */
    private static void promise26ShutAndDoubtful() {
        MessengerCasts x = Scenes.tenBottles().and(y -> y.pay(4)).and(y -> y.set(1, 1)).and(y -> y.set(0, 0)).play();
        // Each is shut with 51 and 49 metres in turn, less its mark; no metre is a whole ten.
        for (int i = 0; i < 10; i++) {
            x.pay(i % 2 == 0 ? 2 : -2);
            counts("behind " + (i + 1) + " jerks", x, 7, i + 1, 8, i + 1);
        }
        counts("all are shut", x, 7, 10, 8, 10);
        x.set(0, 999);
        counts("none is doubtful", x, 7, 10, 8, 0);
        x.set(0, 8);
        int off = 0;
        for (int i = 0; i < 10; i++) {
            off += x.bottle(i, 12);
        }
        counts("as the bottles tell", x, 8, off);
        MessengerCasts y = Check.after("b;+10;!;.2");
        y.set(0, 0);
        counts("0 off of 0", y, 7, 1, 8, 0);
    }

    /** One that was taken off is no bottle any more. */
    private static void promise26TakenOff() {
        MessengerCasts x = Check.after("b;+15;!;.3");
        x.set(0, 4);
        counts("in the water", x, 5, 1, 6, 1, 7, 1, 8, 1);
        x.pay(-15);
        counts("at the water", x, 5, 1, 6, 0, 7, 1, 8, 1);
        x.takeOff(0);
        counts("taken off", x, 5, 0, 6, 0, 7, 0, 8, 0, 12, 1);
        x.undo();
        counts("there again", x, 5, 1, 7, 1, 8, 1);
    }

    /** "9 on their way, 10 let go, 11 let loose, 12 stopped, 13 gone, 14 taken back", each for itself. */
    private static void promise26Messengers() {
        MessengerCasts x = Check.after("+20;m;+20");
        counts("none", x, 9, 0, 10, 0, 11, 0, 12, 0, 13, 0, 14, 0);
        for (int i = 1; i <= 12; i++) {
            x.send();
            counts("let go", x, 9, i, 10, i, 11, 0, 12, 0, 13, 0, 14, 0);
        }
        x.send();
        counts("a thirteenth", x, 9, 12, 10, 12);
        x.pass(4);
        counts("at the bottle", x, 9, 1, 10, 12, 11, 1, 12, 12, 13, 0, 14, 0);
        x.pass(3);
        counts("below it", x, 9, 1, 10, 12, 11, 1, 12, 12, 13, 0, 14, 0);
        x.pass(1);
        counts("gone", x, 9, 0, 10, 12, 11, 1, 12, 12, 13, 1, 14, 0);
        x.send();
        x.send();
        x.pay(-1);
        counts("taken back", x, 9, 0, 10, 14, 11, 1, 12, 12, 13, 1, 14, 2);
        x.send();
        x.pay(-39);
        counts("taken back at nothing", x, 9, 0, 10, 15, 14, 3);
        x.takeOff(0);
        counts("the accounts stay", x, 10, 15, 11, 1, 12, 12, 13, 1, 14, 3);
        // One let loose is taken back, too.
        MessengerCasts y = Check.after("+20;m;+5;!;.1");
        Check.due(2, "pay(-6)", y.pay(-6), 1);
        counts("taken back", y, 9, 0, 10, 1, 11, 1, 12, 1, 13, 0, 14, 1);
    }

    /** "15 and 16 for the settings, 17 for the states in the history, 18 for the length of the text". */
    private static void promise26SettingsHistoryText() {
        MessengerCasts x = new MessengerCasts();
        for (int i = 1; i <= 6; i++) {
            x.set(i % 2, i % 2 == 0 ? 999 - i : i);
            counts("behind set", x, 17, Math.min(4, i), 15 + i % 2, i % 2 == 0 ? 999 - i : i);
        }
        for (int i = 3; i >= 0; i--) {
            x.undo();
            counts("behind undo()", x, 17, i);
        }
        counts("the first two stay", x, 15, 997, 16, 1);
        for (int i = 1; i <= 62; i++) {
            x.type('+');
            counts("behind type", x, 18, Math.min(60, i));
        }
    }

    private static void promise26UndoTakesTheAccountsBack() {
        MessengerCasts x = Check.after("+20;m;+5;!;!");
        x.pass(9);
        counts("behind pass(9)", x, 0, 9, 9, 0, 11, 1, 12, 2, 13, 1);
        x.undo();
        counts("behind undo()", x, 0, 0, 9, 2, 11, 0, 12, 0, 13, 0);
        x.pay(-25);
        counts("behind pay(-25)", x, 9, 0, 14, 2);
        x.undo();
        counts("behind undo()", x, 9, 2, 14, 0, 10, 2);
        x.undo();
        counts("behind undo()", x, 9, 0, 10, 0);
    }

    /** What was let go or let loose is on its way, has stopped, is gone or was taken back. */
    private static void promise26AccountsAddUp() {
        Scene[] scenes = {Scenes.rich(), Scenes.lost(), Scenes.hauledIn(), Scenes.tenBottles().and(x -> x.pay(9)),
            Scenes.twelveMessengers()};
        for (Scene scene : scenes) {
            MessengerCasts x = scene.play();
            for (int i = 0; i < 20; i++) {
                x.send();
                x.pass(1 + i % 4);
                x.pay(i % 3 == 0 ? 7 : -3);
                int begun = x.count(10) + x.count(11);
                int ended = x.count(9) + x.count(12) + x.count(13) + x.count(14);
                Check.due(26, "let go and let loose, behind " + i, ended, begun);
                int struck = 0;
                for (int j = 0; j < x.count(5); j++) {
                    struck += x.bottle(j, 5);
                }
                Check.due(26, "stopped at bottles, behind " + i, struck, x.count(12));
            }
        }
    }
}
