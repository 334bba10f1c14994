import java.util.List;
import java.util.LinkedHashMap;
import java.util.Map;

/** All that the reading methods tell of an object, by the calls that tell it. */
final class Look {
    private Look() {
    }

    static Map<String, Integer> at(MessengerCasts x, int callsLeft) {
        Map<String, Integer> told = new LinkedHashMap<>();
        for (int i = 0; i <= 18; i++) {
            told.put("count(" + i + ")", x.count(i));
        }
        told.put("stopped(0)", x.stopped(0));
        told.put("stopped(1)", x.stopped(1));
        told.put("worst()", x.worst());
        told.put("quietIn()", x.quietIn());
        for (int i = 0; i < 10; i++) {
            for (int j = 0; j <= 3; j++) {
                told.put("layer(" + i + ", " + j + ")", x.layer(i, j));
            }
        }
        int bottles = told.get("count(5)");
        for (int i = 0; i < bottles; i++) {
            for (int j = 0; j <= 13; j++) {
                told.put("bottle(" + i + ", " + j + ")", x.bottle(i, j));
            }
            told.put("reason(" + i + ")", x.reason(i));
            told.put("shutIn(" + i + ")", x.shutIn(i));
        }
        told.put("bottle(" + bottles + ", 0)", x.bottle(bottles, 0));
        int messengers = told.get("count(9)");
        for (int i = 0; i < messengers; i++) {
            told.put("messenger(" + i + ", 0)", x.messenger(i, 0));
            told.put("messenger(" + i + ", 1)", x.messenger(i, 1));
        }
        told.put("messenger(" + messengers + ", 0)", x.messenger(messengers, 0));
        if (told.size() > callsLeft) {
            throw new IllegalStateException("a look of " + told.size() + " calls, " + callsLeft + " are left");
        }
        return told;
    }

    static boolean isSame(Map<String, Integer> one, Map<String, Integer> other, String... but) {
        Map<String, Integer> left = new LinkedHashMap<>(one);
        Map<String, Integer> right = new LinkedHashMap<>(other);
        left.keySet().removeAll(List.of(but));
        right.keySet().removeAll(List.of(but));
        return left.equals(right);
    }

    /** Each call that tells another number than is due is a wrong answer of its own. */
    static void same(int promise, String behind, Map<String, Integer> got, Map<String, Integer> want, String... but) {
        Check.due(promise, "how much is told " + behind, got.size(), want.size());
        for (Map.Entry<String, Integer> due : want.entrySet()) {
            String call = due.getKey();
            if (!List.of(but).contains(call)) {
                Integer told = got.get(call);
                Check.due(promise, call + " " + behind, told == null ? Integer.MIN_VALUE : told, due.getValue());
            }
        }
    }
}
