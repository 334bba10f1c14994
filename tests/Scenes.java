/** Scenes that several tests start from; each has a stop, a snapshot and a text, and ends with an act. */
final class Scenes {
    private Scenes() {
    }

    /**
     * 190 metres are paid out, at the slope 1, in the second 32, with a full history. Bottles at the marks
     * 0 (shut by the jerk, its messenger hangs), 10 (open), 20 (open, with a messenger), 30 (shut by a
     * messenger), 190 (at the water), 200 (above it); messengers at 40 and 190.
     */
    static Scene rich() {
        return Scene.NEW
            .cast("b;+1;!;-2")
            .cast("m;+10;b;+10;m;+10;b;+100")
            .and(x -> x.keep())
            .and(x -> x.set(1, 50))
            .and(x -> x.set(0, 3))
            .cast("+60")
            .cast("!;.2;!;.30")
            .cast("b;+10;m;-10")
            .text("/2;!;+7;.2")
            .and(x -> x.send())
            .and(x -> x.setSlope(1))
            .and(x -> x.setWater(1, 55, 66));
    }

    /**
     * The weight is lost at the slope 2, 150 metres are paid out, in the second 3, with two states in the
     * history. A bottle at the mark 100 (open, with a messenger), a messenger at 147.
     */
    static Scene lost() {
        return Scene.NEW
            .cast("+999;+1")
            .and(x -> x.keep())
            .and(x -> x.weight(true))
            .cast("/2;+100;m;+50;!;.3");
    }

    /** Nothing is paid out any more; a shut bottle hangs at the mark 0, one messenger was taken back. */
    static Scene hauledIn() {
        return Scene.NEW
            .cast("!")
            .cast("m;+10;!;.2;-10")
            .and(x -> x.keep())
            .cast("+9;!;-9");
    }

    /** Ten bottles at the marks 0, 5, 10 to 45, and 45 metres are paid out. */
    static Scene tenBottles() {
        return Scene.NEW
            .cast("!")
            .cast("b;+5;m;+5;b;+5;m;+5;b;+5;m;+5;b;+5;m;+5;b;+5")
            .and(x -> x.keep())
            .text("/1")
            .and(x -> x.clamp(true));
    }

    /** Twelve messengers are on their way, at the marks 45 (three) and 50; a bottle at the mark 0. */
    static Scene twelveMessengers() {
        return Scene.NEW
            .cast("-1")
            .cast("m;+50;!;!;!;.1;!;!;!;!;!;!;!;!")
            .and(x -> x.keep())
            .text("/1")
            .and(x -> x.send());
    }

    /** The second is the one that is asked for, up to 99999. */
    static Scene atSecond(int second) {
        Scene scene = Scene.NEW.cast("b;b").cast("m;+30;!");
        int left = second;
        while (left > 0) {
            int seconds = Math.min(999, left);
            scene = scene.and(x -> x.pass(seconds));
            left -= seconds;
        }
        return scene.and(x -> x.keep()).text("/1;.1").and(x -> x.pay(1));
    }

    static Scene paidOut(int metres) {
        Scene scene = Scene.NEW.and(x -> x.setSlope(3));
        return metres == 0 ? scene : scene.and(x -> x.pay(metres));
    }
}
