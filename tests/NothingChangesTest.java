import java.util.Arrays;

/**
 * "A call that returns an error or NONE changes nothing (but for the latest stop of perform())", and only
 * acts that return neither record a state. Behind each refused call, each NONE and each reading call, all
 * that is told is what it was, and so it is behind as many undo() as there are states, behind restore()
 * and behind perform(); undo() takes back the act before the refused call.
 */
public final class NothingChangesTest {
    private static final int MIN = Integer.MIN_VALUE;
    private static final int MAX = Integer.MAX_VALUE;

    public static void main(String[] args) {
        Scene[] scenes = {Scene.NEW, Scenes.rich(), Scenes.lost(), Scenes.hauledIn(), Scenes.tenBottles(),
            Scenes.twelveMessengers(), Scenes.rich().and(x -> x.setSlope(6))};
        for (int i = 0; i < scenes.length; i++) {
            outOfRangeEverywhere(" in scene " + i, scenes[i]);
            readingChangesNothing(" in scene " + i, scenes[i]);
        }
        promise2();
        promise3();
        promise4();
        promise5();
        promise6();
        promise7();
        promise8();
        promise9();
        promise10();
        promise11();
        promise12();
        promise13Faults();
        promise13Stops();
        promise15();
        promise16();
        promise17();
        Check.finish("NothingChangesTest");
    }

    private static void unchanged(int promise, String name, Scene before, int due, Scene.Call call, String... but) {
        Scene behind = before.and(call);
        Check.due(promise, name, behind.answer(), due);
        Look.same(promise, "behind " + name, behind.told(), before.told(), but);
        int states = before.play().count(17);
        Scene one = before;
        Scene other = behind;
        for (int i = 1; i <= states + 1; i++) {
            one = one.and(x -> x.undo());
            other = other.and(x -> x.undo());
            Check.due(15, "undo() number " + i + " behind " + name, other.answer(), i <= states ? states - i : Check.NONE);
            Look.same(promise, "behind " + name + " and undo() number " + i, other.told(), one.told(), but);
        }
        same(promise, name + " and restore()", behind.and(x -> x.restore()), before.and(x -> x.restore()), but);
        same(promise, name + " and perform()", behind.and(x -> x.perform()), before.and(x -> x.perform()), but);
    }

    /** As unchanged, where the scene's last call is an act: that one is what undo() takes back. */
    private static void refused(int promise, String name, Scene before, int due, Scene.Call call) {
        unchanged(promise, name, before, due, call);
        takesBackTheActBefore(promise, name, before, call);
    }

    private static void takesBackTheActBefore(int promise, String name, Scene before, Scene.Call call, String... but) {
        String[] all = Arrays.copyOf(but, but.length + 1);
        all[but.length] = "count(17)";
        Look.same(promise, "behind " + name + " and undo()", before.and(call).and(x -> x.undo()).told(),
            before.withoutLast().told(), all);
        Check.due(promise, "the act before " + name + " is seen",
            Look.isSame(before.told(), before.withoutLast().told(), all) ? 1 : 0, 0);
    }

    private static void same(int promise, String behind, Scene one, Scene other, String... but) {
        Check.due(promise, "the answer behind " + behind, one.answer(), other.answer());
        Look.same(promise, "behind " + behind, one.told(), other.told(), but);
    }

    /** What no scene allows. */
    private static void outOfRangeEverywhere(String where, Scene scene) {
        for (int metres : new int[] {0, 1000, -1000, MAX, MIN, MAX - 998, MIN + 999}) {
            unchanged(2, "pay(" + metres + ")" + where, scene, Check.BAD_VALUE, x -> x.pay(metres));
        }
        for (int slope : new int[] {-1, 7, MIN, MAX}) {
            unchanged(3, "setSlope(" + slope + ")" + where, scene, Check.BAD_VALUE, x -> x.setSlope(slope));
        }
        for (int bottle : new int[] {-1, 10, 11, MIN, MAX}) {
            unchanged(6, "takeOff(" + bottle + ")" + where, scene, Check.UNKNOWN, x -> x.takeOff(bottle));
        }
        for (int seconds : new int[] {0, -1, 1000, MIN, MAX}) {
            unchanged(8, "pass(" + seconds + ")" + where, scene, Check.BAD_VALUE, x -> x.pass(seconds));
        }
        for (int layer : new int[] {-1, 10, MIN, MAX}) {
            unchanged(9, "setWater(" + layer + ", 1, 1)" + where, scene, Check.UNKNOWN, x -> x.setWater(layer, 1, 1));
        }
        for (int warmth : new int[] {-21, 301, MIN, MAX}) {
            unchanged(9, "setWater(9, " + warmth + ", 1)" + where, scene, Check.BAD_VALUE,
                x -> x.setWater(9, warmth, 1));
        }
        for (int salt : new int[] {-1, 421, MIN, MAX}) {
            unchanged(9, "setWater(0, 1, " + salt + ")" + where, scene, Check.BAD_VALUE, x -> x.setWater(0, 1, salt));
        }
        for (int which : new int[] {-1, 2, MIN, MAX}) {
            unchanged(10, "set(" + which + ", 5)" + where, scene, Check.UNKNOWN, x -> x.set(which, 5));
        }
        for (int value : new int[] {-1, 1000, MIN, MAX}) {
            unchanged(10, "set(0, " + value + ")" + where, scene, Check.BAD_VALUE, x -> x.set(0, value));
            unchanged(10, "set(1, " + value + ")" + where, scene, Check.BAD_VALUE, x -> x.set(1, value));
        }
        unchanged(10, "set(1, 0)" + where, scene, Check.BAD_VALUE, x -> x.set(1, 0));
    }

    private static void readingChangesNothing(String where, Scene scene) {
        for (int what : new int[] {-1, 2, MIN, MAX}) {
            unchanged(14, "stopped(" + what + ")" + where, scene, Check.BAD_VALUE, x -> x.stopped(what));
            unchanged(19, "messenger(0, " + what + ")" + where, scene, Check.BAD_VALUE, x -> x.messenger(0, what));
        }
        for (int i : new int[] {-1, 10, MIN, MAX}) {
            unchanged(18, "bottle(" + i + ", 0)" + where, scene, Check.UNKNOWN, x -> x.bottle(i, 0));
            unchanged(20, "layer(" + i + ", 0)" + where, scene, Check.UNKNOWN, x -> x.layer(i, 0));
            unchanged(22, "reason(" + i + ")" + where, scene, Check.UNKNOWN, x -> x.reason(i));
            unchanged(23, "shutIn(" + i + ")" + where, scene, Check.UNKNOWN, x -> x.shutIn(i));
        }
        unchanged(19, "messenger(-1, 0)" + where, scene, Check.BAD_VALUE, x -> x.messenger(-1, 0));
        unchanged(19, "messenger(12, 0)" + where, scene, Check.NONE, x -> x.messenger(12, 0));
        unchanged(20, "layer(0, 4)" + where, scene, Check.BAD_VALUE, x -> x.layer(0, 4));
        unchanged(21, "depth(1000, 0)" + where, scene, Check.BAD_VALUE, x -> x.depth(1000, 0));
        unchanged(26, "count(19)" + where, scene, Check.BAD_VALUE, x -> x.count(19));
        for (int i = 0; i < 6; i++) {
            int bottle = i;
            MessengerCasts y = scene.play();
            unchanged(22, "reason(" + i + ")" + where, scene, y.reason(i), x -> x.reason(bottle));
            unchanged(23, "shutIn(" + i + ")" + where, scene, y.shutIn(i), x -> x.shutIn(bottle));
            unchanged(18, "bottle(" + i + ", 12)" + where, scene, y.bottle(i, 12), x -> x.bottle(bottle, 12));
            unchanged(20, "layer(" + i + ", 2)" + where, scene, y.layer(i, 2), x -> x.layer(bottle, 2));
        }
        for (int what = 0; what <= 1; what++) {
            int number = what;
            MessengerCasts y = scene.play();
            unchanged(14, "stopped(" + what + ")" + where, scene, y.stopped(what), x -> x.stopped(number));
            unchanged(19, "messenger(0, " + what + ")" + where, scene, y.messenger(0, what), x -> x.messenger(0, number));
        }
        for (int what = 0; what <= 18; what += 3) {
            int number = what;
            unchanged(26, "count(" + what + ")" + where, scene, scene.play().count(what), x -> x.count(number));
        }
        unchanged(24, "quietIn()" + where, scene, scene.play().quietIn(), x -> x.quietIn());
        unchanged(25, "worst()" + where, scene, scene.play().worst(), x -> x.worst());
        unchanged(21, "depth(999, 6)" + where, scene, 499, x -> x.depth(999, 6));
    }

    private static void promise2() {
        refused(2, "pay(-191) of 190", Scenes.rich(), Check.NOT_POSSIBLE, x -> x.pay(-191));
        refused(2, "pay(-999) of 190", Scenes.rich(), Check.NOT_POSSIBLE, x -> x.pay(-999));
        refused(2, "pay(810) to 190", Scenes.rich(), Check.FULL, x -> x.pay(810));
        refused(2, "pay(999) to 190", Scenes.rich(), Check.FULL, x -> x.pay(999));
        refused(2, "pay(0)", Scenes.rich(), Check.BAD_VALUE, x -> x.pay(0));
        refused(2, "pay(-1) of nothing", Scenes.hauledIn().cast("/1"), Check.NOT_POSSIBLE, x -> x.pay(-1));
        refused(2, "pay(1) to 999", Scenes.paidOut(999), Check.FULL, x -> x.pay(1));
        refused(2, "pay(MAX) to 999", Scenes.paidOut(999), Check.BAD_VALUE, x -> x.pay(MAX));
        refused(2, "pay(MIN) of nothing", Scenes.paidOut(0), Check.BAD_VALUE, x -> x.pay(MIN));
    }

    private static void promise3() {
        refused(3, "setSlope(1) again", Scenes.rich(), Check.NONE, x -> x.setSlope(1));
        refused(3, "setSlope(2) again, it counts as 4", Scenes.lost(), Check.NONE, x -> x.setSlope(2));
        refused(3, "setSlope(7)", Scenes.lost(), Check.BAD_VALUE, x -> x.setSlope(7));
    }

    private static void promise4() {
        refused(4, "weight(false), not lost, paid out", Scenes.rich(), Check.NONE, x -> x.weight(false));
        refused(4, "weight(true), lost", Scenes.lost(), Check.NONE, x -> x.weight(true));
        refused(4, "weight(false), lost and paid out", Scenes.lost(), Check.NOT_POSSIBLE, x -> x.weight(false));
        refused(4, "weight(false), lost, a metre paid out", Scenes.lost().and(x -> x.pay(-149)), Check.NOT_POSSIBLE,
            x -> x.weight(false));
        refused(4, "weight(true), lost, nothing paid out", Scenes.lost().and(x -> x.pay(-150)), Check.NONE,
            x -> x.weight(true));
    }

    private static void promise5() {
        for (boolean messenger : new boolean[] {false, true}) {
            refused(5, "clamp(" + messenger + ") of an eleventh", Scenes.tenBottles().and(x -> x.pay(9)), Check.FULL,
                x -> x.clamp(messenger));
            refused(5, "clamp(" + messenger + ") at one's mark", Scenes.rich(), Check.NOT_POSSIBLE,
                x -> x.clamp(messenger));
            for (int d = -4; d <= 4; d++) {
                int metres = 5 + d;
                Scene near = Scenes.rich().and(x -> x.pay(5)).and(x -> x.pay(metres));
                refused(5, "clamp(" + messenger + "), " + d + " from one", near, Check.NOT_POSSIBLE,
                    x -> x.clamp(messenger));
            }
        }
    }

    private static void promise6() {
        for (int i = 0; i <= 3; i++) {
            int bottle = i;
            refused(6, "takeOff(" + i + ") in the water", Scenes.rich(), Check.NOT_POSSIBLE, x -> x.takeOff(bottle));
        }
        refused(6, "takeOff(4), a metre deep", Scenes.rich().and(x -> x.pay(1)), Check.NOT_POSSIBLE,
            x -> x.takeOff(4));
        refused(6, "takeOff(6)", Scenes.rich(), Check.UNKNOWN, x -> x.takeOff(6));
        refused(6, "takeOff(1)", Scenes.lost(), Check.UNKNOWN, x -> x.takeOff(1));
        refused(6, "takeOff(9) behind it", Scenes.tenBottles().and(x -> x.takeOff(9)), Check.UNKNOWN,
            x -> x.takeOff(9));
    }

    private static void promise7() {
        refused(7, "send(), nothing paid out", Scenes.hauledIn().cast("/1"), Check.NOT_POSSIBLE, x -> x.send());
        refused(7, "send(), never paid out", Scenes.paidOut(0), Check.NOT_POSSIBLE, x -> x.send());
        refused(7, "send() of a thirteenth", Scenes.twelveMessengers(), Check.FULL, x -> x.send());
    }

    private static void promise8() {
        refused(8, "pass(1) behind 99999", Scenes.atSecond(99999), Check.FULL, x -> x.pass(1));
        refused(8, "pass(999) behind 99999", Scenes.atSecond(99999), Check.FULL, x -> x.pass(999));
        refused(8, "pass(2) behind 99998", Scenes.atSecond(99998), Check.FULL, x -> x.pass(2));
        refused(8, "pass(999) behind 99001", Scenes.atSecond(99001), Check.FULL, x -> x.pass(999));
        refused(8, "pass(MAX) behind 99999", Scenes.atSecond(99999), Check.BAD_VALUE, x -> x.pass(MAX));
        refused(8, "pass(0)", Scenes.rich(), Check.BAD_VALUE, x -> x.pass(0));
    }

    private static void promise9() {
        refused(9, "setWater(1, 55, 66) again", Scenes.rich(), Check.NONE, x -> x.setWater(1, 55, 66));
        refused(9, "setWater(9, 20, 349), as at first", Scenes.rich(), Check.NONE, x -> x.setWater(9, 20, 349));
        refused(9, "setWater(1, 55, 421)", Scenes.rich(), Check.BAD_VALUE, x -> x.setWater(1, 55, 421));
        refused(9, "setWater(1, 301, 66)", Scenes.rich(), Check.BAD_VALUE, x -> x.setWater(1, 301, 66));
        refused(9, "setWater(10, 55, 66)", Scenes.rich(), Check.UNKNOWN, x -> x.setWater(10, 55, 66));
    }

    private static void promise10() {
        refused(10, "set(0, 3) again", Scenes.rich(), Check.NONE, x -> x.set(0, 3));
        refused(10, "set(1, 50) again", Scenes.rich(), Check.NONE, x -> x.set(1, 50));
        refused(10, "set(0, 20), as at first", Scenes.lost(), Check.NONE, x -> x.set(0, 20));
        refused(10, "set(1, 200), as at first", Scenes.lost(), Check.NONE, x -> x.set(1, 200));
        refused(10, "set(1, 0)", Scenes.lost(), Check.BAD_VALUE, x -> x.set(1, 0));
        refused(10, "set(2, 3)", Scenes.rich(), Check.UNKNOWN, x -> x.set(2, 3));
    }

    private static void promise11() {
        StringBuilder row = new StringBuilder(".9");
        while (row.length() < 60) {
            row.append(";/").append(row.length() % 7).append(row.length() == 59 ? ";" : "");
        }
        String full = row.substring(0, 60);
        for (Scene scene : new Scene[] {Scene.NEW.text(full), Scenes.lost().text(full)}) {
            unchanged(11, "type('b') of a 61st", scene, Check.FULL, x -> x.type('b'));
            unchanged(11, "type(0) of a 61st", scene, Check.FULL, x -> x.type((char) 0));
            unchanged(11, "type(65535) of a 61st", scene, Check.FULL, x -> x.type((char) 65535));
        }
        // Typing is no act, and the text is no part of a state.
        for (Scene scene : new Scene[] {Scene.NEW, Scenes.rich(), Scenes.lost()}) {
            int length = scene.play().count(18);
            Scene typed = scene.and(x -> x.type('?'));
            Check.due(11, "type('?')", typed.answer(), length + 1);
            Look.same(11, "behind type('?')", typed.told(), scene.told(), "count(18)");
            Look.same(11, "behind type('?') and undo()", typed.and(x -> x.undo()).told(),
                scene.and(x -> x.undo()).told(), "count(18)");
            Look.same(11, "behind type('?') and restore()", typed.and(x -> x.restore()).told(),
                scene.and(x -> x.restore()).told(), "count(18)");
        }
    }

    private static void promise12() {
        unchanged(12, "clearText() of the empty text", Scene.NEW, 0, x -> x.clearText());
        unchanged(12, "clearText() of the empty text", Scenes.rich().text(""), 0, x -> x.clearText());
        Scene rich = Scenes.rich();
        Scene cleared = rich.and(x -> x.clearText());
        Check.due(12, "clearText()", cleared.answer(), 10);
        Look.same(12, "behind clearText()", cleared.told(), rich.told(), "count(18)");
        Check.due(12, "count(18)", cleared.play().count(18), 0);
        Look.same(12, "behind clearText() and undo()", cleared.and(x -> x.undo()).told(),
            rich.and(x -> x.undo()).told(), "count(18)");
        Check.due(12, "perform() of the empty text", cleared.and(x -> x.perform()).answer(), -1100);
    }

    /** A fault is an error; it is no stop, so that the latest stop stays, too. */
    private static void promise13Faults() {
        String[] texts = {"", "x", "b;", "+0", "+1000", "/7", "/00", ".0", "-", "-5;x", "/3;+7;b;!;.2;-1;b;"};
        int[] faults = {0, 0, 2, 1, 4, 1, 2, 1, 1, 3, 18};
        for (int i = 0; i < texts.length; i++) {
            String text = texts[i];
            String name = "perform() of \"" + text + "\"";
            for (Scene scene : new Scene[] {Scene.NEW, Scenes.rich(), Scenes.lost(), Scenes.hauledIn()}) {
                unchanged(13, name, scene.text(text), -1100 - faults[i], x -> x.perform());
            }
            takesBackTheActBefore(13, name, Scene.NEW.text(text).and(x -> x.pay(9)), x -> x.perform());
            takesBackTheActBefore(13, name, Scenes.lost().text(text).and(x -> x.pay(9)), x -> x.perform());
        }
    }

    /** "All of it, or nothing": what the things before the stop did is not done. */
    private static void promise13Stops() {
        stop(Scene.NEW, "-1", 0, Check.NOT_POSSIBLE);
        stop(Scene.NEW, "!", 0, Check.NOT_POSSIBLE);
        stop(Scene.NEW, "m;+300;b;+50;!;/3;.9;-350;-1", 8, Check.NOT_POSSIBLE);
        stop(Scenes.rich(), "/3;.7;+60;b;m", 4, Check.NOT_POSSIBLE);
        stop(Scenes.rich(), "+100;-100;+808;+1;+1", 4, Check.FULL);
        stop(Scenes.rich(), "-190;!", 1, Check.NOT_POSSIBLE);
        stop(Scenes.rich(), ".99;+60;-251", 2, Check.NOT_POSSIBLE);
        stop(Scenes.rich(), "/1;/1;/1;b", 3, Check.NOT_POSSIBLE);
        stop(Scenes.lost(), "!;.999;-150;/0;+1;-2", 5, Check.NOT_POSSIBLE);
        stop(Scenes.hauledIn(), ".5;/2;!;+1", 2, Check.NOT_POSSIBLE);
        stop(Scenes.tenBottles(), "!;+5;.3;b", 3, Check.FULL);
        stop(Scenes.twelveMessengers(), "/4;.2;!", 2, Check.FULL);
        stop(Scenes.atSecond(99990), ".9;.1", 1, Check.FULL);
    }

    private static void stop(Scene scene, String text, int number, int error) {
        String name = "perform() of \"" + text + "\"";
        String[] but = {"stopped(0)", "stopped(1)"};
        unchanged(13, name, scene.text(text), Check.NOT_POSSIBLE, x -> x.perform(), but);
        Check.due(14, "stopped(0) behind " + name, scene.cast(text).and(x -> x.stopped(0)).answer(), number);
        Check.due(14, "stopped(1) behind " + name, scene.cast(text).and(x -> x.stopped(1)).answer(), error);
        if (!scene.isEmpty()) {
            Scene before = scene.text(text).and(x -> x.setWater(0, -20, 420));
            takesBackTheActBefore(13, name, before, x -> x.perform(), but);
        }
    }

    private static void promise15() {
        unchanged(15, "undo() of nothing", Scene.NEW, Check.NONE, x -> x.undo());
        unchanged(15, "undo() of nothing", Scene.NEW.text("b"), Check.NONE, x -> x.undo());
        unchanged(15, "undo() of nothing any more", Scenes.lost().times(2, x -> x.undo()), Check.NONE, x -> x.undo());
        unchanged(15, "undo() of nothing any more", Scenes.rich().times(4, x -> x.undo()), Check.NONE, x -> x.undo());
    }

    /** keep() is no act: but for restore(), all is as it was. */
    private static void promise16() {
        Scene[] scenes = {Scene.NEW, Scenes.rich(), Scenes.lost(), Scenes.tenBottles()};
        int[] bottles = {0, 6, 1, 10};
        for (int i = 0; i < scenes.length; i++) {
            Scene kept = scenes[i].and(x -> x.keep());
            Check.due(16, "keep() in scene " + i, kept.answer(), bottles[i]);
            Look.same(16, "behind keep()", kept.told(), scenes[i].told());
            Look.same(16, "behind keep() and undo()", kept.and(x -> x.undo()).told(),
                scenes[i].and(x -> x.undo()).told());
            Look.same(16, "behind keep() and perform()", kept.and(x -> x.perform()).told(),
                scenes[i].and(x -> x.perform()).told());
        }
    }

    private static void promise17() {
        Scene full = Scene.NEW.cast("!").cast("m;+9;m").cast("+9;!").cast(".3").cast("+1").cast("/4;+1");
        refused(17, "restore(), no snapshot", Scene.NEW.and(x -> x.pay(5)), Check.NONE, x -> x.restore());
        refused(17, "restore(), no snapshot, full history", full, Check.NONE, x -> x.restore());
        unchanged(17, "restore(), no snapshot", Scene.NEW, Check.NONE, x -> x.restore());
        unchanged(17, "restore(), no snapshot", Scene.NEW.and(x -> x.pay(5)).and(x -> x.undo()), Check.NONE,
            x -> x.restore());
    }
}
