import java.util.LinkedHashMap;
import java.util.Map;

/**
 * "An object is used for at most 512 calls after it has been made": up to the last of them all is as in the
 * first ones, and no object knows of another.
 */
public final class WholeLifeTest {
    private static final int CALLS = 512;

    public static void main(String[] args) throws Exception {
        eachMethodAsTheLastCall();
        paidOutAMetreACall();
        sentAndTakenBack();
        passedInEachCall();
        clampedAndTakenOff();
        keptAndRestored();
        typedAndCleared();
        performedInEachCall();
        objectsInTurn();
        Check.finish("WholeLifeTest");
    }

    private static Map<String, Scene.Call> everyMethod() {
        Map<String, Scene.Call> calls = new LinkedHashMap<>();
        calls.put("2 pay(60)", x -> x.pay(60));
        calls.put("2 pay(-1)", x -> x.pay(-1));
        calls.put("3 setSlope(5)", x -> x.setSlope(5));
        calls.put("4 weight(true)", x -> x.weight(true));
        calls.put("5 clamp(true)", x -> x.clamp(true));
        calls.put("6 takeOff(5)", x -> x.takeOff(5));
        calls.put("7 send()", x -> x.send());
        calls.put("8 pass(999)", x -> x.pass(999));
        calls.put("9 setWater(9, -20, 420)", x -> x.setWater(9, -20, 420));
        calls.put("10 set(1, 999)", x -> x.set(1, 999));
        calls.put("11 type(';')", x -> x.type(';'));
        calls.put("12 clearText()", x -> x.clearText());
        calls.put("13 perform()", x -> x.perform());
        calls.put("14 stopped(0)", x -> x.stopped(0));
        calls.put("14 stopped(1)", x -> x.stopped(1));
        calls.put("15 undo()", x -> x.undo());
        calls.put("16 keep()", x -> x.keep());
        calls.put("17 restore()", x -> x.restore());
        for (int i = 0; i <= 13; i++) {
            int what = i;
            calls.put("18 bottle(0, " + i + ")", x -> x.bottle(0, what));
        }
        calls.put("19 messenger(0, 0)", x -> x.messenger(0, 0));
        calls.put("19 messenger(1, 1)", x -> x.messenger(1, 1));
        calls.put("20 layer(1, 3)", x -> x.layer(1, 3));
        calls.put("21 depth(999, 6)", x -> x.depth(999, 6));
        calls.put("22 reason(1)", x -> x.reason(1));
        calls.put("23 shutIn(2)", x -> x.shutIn(2));
        calls.put("24 quietIn()", x -> x.quietIn());
        calls.put("25 worst()", x -> x.worst());
        for (int i = 0; i <= 18; i++) {
            int what = i;
            calls.put("26 count(" + i + ")", x -> x.count(what));
        }
        return calls;
    }

    /** Reading calls, and some that are refused, up to the last but one. */
    private static Scene upTo(int calls, Scene scene) {
        Scene longer = scene;
        for (int i = 0; longer.calls() < calls; i++) {
            int turn = i;
            switch (i % 8) {
                case 0: longer = longer.and(x -> x.count(turn % 19)); break;
                case 1: longer = longer.and(x -> x.bottle(turn % 10, turn % 14)); break;
                case 2: longer = longer.and(x -> x.quietIn()); break;
                case 3: longer = longer.and(x -> x.shutIn(turn % 10)); break;
                case 4: longer = longer.and(x -> x.reason(turn % 10)); break;
                case 5: longer = longer.and(x -> x.pay(1000)); break;
                case 6: longer = longer.and(x -> x.pass(0)); break;
                default: longer = longer.and(x -> x.worst()); break;
            }
        }
        return longer;
    }

    private static void eachMethodAsTheLastCall() {
        for (Scene start : new Scene[] {Scene.NEW, Scenes.rich(), Scenes.lost(), Scenes.tenBottles()}) {
            Scene old = upTo(CALLS - 1, start);
            Check.due(0, "calls before the last one", old.calls(), CALLS - 1);
            for (Map.Entry<String, Scene.Call> last : everyMethod().entrySet()) {
                int promise = Integer.parseInt(last.getKey().split(" ")[0]);
                Check.due(promise, last.getKey() + " as the call 512",
                    old.and(last.getValue()).answer(), start.and(last.getValue()).answer());
            }
        }
    }

    private static void paidOutAMetreACall() {
        MessengerCasts x = new MessengerCasts();
        for (int i = 0; i < CALLS - 1; i++) {
            Check.due(2, "pay(1)", x.pay(1), 0);
        }
        Check.due(26, "count(1) as the call 512", x.count(1), 511);
    }

    private static void sentAndTakenBack() {
        MessengerCasts x = new MessengerCasts();
        for (int i = 0; i < 127; i++) {
            Check.due(2, "pay(9)", x.pay(9), 0);
            Check.due(7, "send()", x.send(), 1);
            Check.due(2, "pay(-9)", x.pay(-9), 1);
            Check.due(26, "count(14)", x.count(14), i + 1);
        }
        Check.due(26, "count(10)", x.count(10), 127);
        Check.due(26, "count(9)", x.count(9), 0);
        Check.due(15, "undo()", x.undo(), 3);
        Check.due(26, "count(9) as the call 512", x.count(9), 1);
    }

    /** One messenger strikes the same bottle in every second; only the first one shuts it. */
    private static void passedInEachCall() {
        MessengerCasts x = new MessengerCasts();
        x.clamp(false);
        x.pay(5);
        for (int i = 0; i < 254; i++) {
            Check.due(7, "send()", x.send(), 1);
            Check.due(8, "pass(1)", x.pass(1), i == 0 ? 1 : 0);
        }
        Check.due(18, "bottle(0, 5)", x.bottle(0, 5), 254);
        Check.due(18, "bottle(0, 6) as the call 512", x.bottle(0, 6), 1);
    }

    private static void clampedAndTakenOff() {
        MessengerCasts x = new MessengerCasts();
        for (int i = 0; i < 255; i++) {
            Check.due(5, "clamp(true)", x.clamp(true), 0);
            Check.due(6, "takeOff(0)", x.takeOff(0), 0);
        }
        Check.due(5, "clamp(false)", x.clamp(false), 0);
        Check.due(18, "bottle(0, 4) as the call 512", x.bottle(0, 4), 0);
    }

    private static void keptAndRestored() {
        MessengerCasts x = new MessengerCasts();
        for (int i = 0; i < 170; i++) {
            Check.due(2, "pay(5)", x.pay(5), 0);
            Check.due(16, "keep()", x.keep(), 0);
            Check.due(17, "restore()", x.restore(), 0);
        }
        Check.due(15, "undo()", x.undo(), 3);
        Check.due(26, "count(1) as the call 512", x.count(1), 850);
    }

    private static void typedAndCleared() {
        MessengerCasts x = new MessengerCasts();
        for (int round = 0; round < 8; round++) {
            for (int i = 1; i <= 60; i++) {
                Check.due(11, "type('b')", x.type('b'), i);
            }
            Check.due(11, "type('b') behind 60", x.type('b'), Check.FULL);
            Check.due(13, "perform()", x.perform(), -1101);
            Check.due(12, "clearText()", x.clearText(), 60);
        }
        Check.due(12, "clearText() again", x.clearText(), 0);
    }

    /** The text stays, so that the same cast is done each time, up to the call 512. */
    private static void performedInEachCall() {
        MessengerCasts x = new MessengerCasts();
        Check.write(x, "+5;-4");
        for (int i = 0; i < CALLS - 8; i++) {
            Check.due(13, "perform()", x.perform(), 2);
        }
        Check.due(26, "count(1)", x.count(1), CALLS - 8);
        Check.due(26, "count(17) as the call 512", x.count(17), 4);
    }

    /** Objects whose calls are made in turn tell what each of them tells alone. */
    private static void objectsInTurn() {
        Scene[] scenes = {Scenes.rich(), Scenes.lost(), Scenes.tenBottles(), Scenes.twelveMessengers()};
        for (Scene one : scenes) {
            for (Scene other : scenes) {
                MessengerCasts x = new MessengerCasts();
                MessengerCasts y = new MessengerCasts();
                one.inTurnWith(other, x, y);
                Look.same(1, "in turn with another object", Look.at(x, CALLS - one.calls()), one.told());
                Look.same(1, "in turn with another object", Look.at(y, CALLS - other.calls()), other.told());
                Check.due(15, "undo() of the one", x.undo(), one.and(z -> z.undo()).answer());
                Check.due(17, "restore() of the other", y.restore(), other.and(z -> z.restore()).answer());
                Check.due(13, "perform() of the one", x.perform(), one.and(z -> z.undo()).and(z -> z.perform()).answer());
            }
        }
    }
}
