import java.util.Arrays;
import java.util.Map;

/**
 * A run of calls that is played on a fresh object as often as a test needs it: an object has 512 calls,
 * and one look at all that is told takes half of them.
 */
final class Scene {
    interface Call {
        int on(MessengerCasts x);
    }

    static final Scene NEW = new Scene(new Call[0], 0);
    private static final int MOST_CALLS = 512;

    private final Call[] calls;
    private final int cost;

    private Scene(Call[] calls, int cost) {
        if (cost > MOST_CALLS) {
            throw new IllegalStateException("a scene of " + cost + " calls");
        }
        this.calls = calls;
        this.cost = cost;
    }

    private Scene with(Call call, int more) {
        Call[] all = Arrays.copyOf(calls, calls.length + 1);
        all[calls.length] = call;
        return new Scene(all, cost + more);
    }

    Scene and(Call call) {
        return with(call, 1);
    }

    Scene times(int count, Call call) {
        Scene scene = this;
        for (int i = 0; i < count; i++) {
            scene = scene.and(call);
        }
        return scene;
    }

    /** The text is put in place of the one that was, and done. */
    Scene cast(String text) {
        return text(text).and(x -> x.perform());
    }

    /** The text is put in place of the one that was. */
    Scene text(String text) {
        return with(x -> Check.write(x, text), text.length() + 1);
    }

    Scene withoutLast() {
        return new Scene(Arrays.copyOf(calls, calls.length - 1), cost);
    }

    boolean isEmpty() {
        return calls.length == 0;
    }

    MessengerCasts play() {
        MessengerCasts x = new MessengerCasts();
        for (Call call : calls) {
            call.on(x);
        }
        return x;
    }

    /** The two runs are played call by call, each on its own object. */
    void inTurnWith(Scene other, MessengerCasts mine, MessengerCasts theirs) {
        for (int i = 0; i < Math.max(calls.length, other.calls.length); i++) {
            if (i < calls.length) {
                calls[i].on(mine);
            }
            if (i < other.calls.length) {
                other.calls[i].on(theirs);
            }
        }
    }

    /** How many calls of the object it takes. */
    int calls() {
        return cost;
    }

    /** What the last call answers. */
    int answer() {
        MessengerCasts x = new MessengerCasts();
        int answer = 0;
        for (Call call : calls) {
            answer = call.on(x);
        }
        return answer;
    }

    Map<String, Integer> told() {
        return Look.at(play(), MOST_CALLS - cost);
    }
}
