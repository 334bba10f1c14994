import java.util.ArrayList;
import java.util.Arrays;
import java.util.Collections;
import java.util.List;
import java.util.regex.Matcher;
import java.util.regex.Pattern;

/**
 * The document once more, written as its words stand and in another way than the class: every state
 * is a copy of its own, every second passes one by one, every messenger knows when it started, and
 * texts are read by a pattern. ModelTest compares the two.
 */
final class Model {
    private static final Pattern CAST = Pattern.compile(
        "([+.-][1-9][0-9]{0,2}|[bm!]|/[0-6])(;([+.-][1-9][0-9]{0,2}|[bm!]|/[0-6]))*", Pattern.DOTALL);
    private static final int[] DEPTHS = {1000, 985, 940, 866, 766, 643, 500};

    static final class Bottle {
        int mark;
        boolean hangs;
        int struck;
        int[] shut;   // second, guarded, bare, salt, metre, depth
        boolean jerked;

        Bottle copy() {
            Bottle b = new Bottle();
            b.mark = mark;
            b.hangs = hangs;
            b.struck = struck;
            b.shut = shut;
            b.jerked = jerked;
            return b;
        }

        int pair() {
            return 10 * (shut[2] - shut[1]);
        }

        int off() {
            return Math.abs(pair() - shut[4]);
        }
    }

    static final class Messenger {
        int mark;
        long started;

        Messenger copy() {
            Messenger m = new Messenger();
            m.mark = mark;
            m.started = started;
            return m;
        }
    }

    static final class World {
        int paid, slope, second, sent, loose, stopped, gone, back;
        long starts;
        boolean lost;
        int[] set = {20, 200};
        int[] warm = new int[10], salt = new int[10];
        List<Bottle> bottles = new ArrayList<>();
        List<Messenger> messengers = new ArrayList<>();

        World copy() {
            World w = new World();
            w.paid = paid; w.slope = slope; w.second = second; w.sent = sent; w.loose = loose;
            w.stopped = stopped; w.gone = gone; w.back = back; w.starts = starts; w.lost = lost;
            w.set = set.clone(); w.warm = warm.clone(); w.salt = salt.clone();
            for (Bottle b : bottles) w.bottles.add(b.copy());
            for (Messenger m : messengers) w.messengers.add(m.copy());
            return w;
        }

        int counts() {
            return lost ? Math.min(6, slope + 2) : slope;
        }

        int metre(int mark) {
            return mark < paid ? paid - mark : 0;
        }

        int deep(int mark) {
            return metre(mark) * DEPTHS[counts()] / 1000;
        }

        void shut(Bottle b) {
            int d = deep(b.mark);
            int l = Math.min(9, d / 100);
            b.shut = new int[] {second, warm[l], warm[l] + d / 10, salt[l], metre(b.mark), d};
        }

        void start(int mark) {
            Messenger m = new Messenger();
            m.mark = mark;
            m.started = starts++;
            messengers.add(m);
        }

        void sort() {
            messengers.sort((a, b) -> a.mark != b.mark ? Integer.compare(a.mark, b.mark) : Long.compare(a.started, b.started));
        }

        void tick() {
            second++;
            if (counts() == 6) return;
            sort();
            int step = Math.max(1, 5 - counts());
            for (Messenger m : new ArrayList<>(messengers)) {
                Bottle hit = null;
                for (Bottle b : bottles) {
                    boolean between = b.mark < m.mark && b.mark >= m.mark - step;
                    if (between && b.mark < paid && (hit == null || b.mark > hit.mark)) hit = b;
                }
                if (hit != null) {
                    messengers.remove(m);
                    stopped++;
                    hit.struck++;
                    if (hit.shut == null) {
                        shut(hit);
                        if (hit.hangs) {
                            hit.hangs = false;
                            loose++;
                            start(hit.mark);
                        }
                    }
                } else if (m.mark - step <= 0) {
                    messengers.remove(m);
                    gone++;
                } else {
                    m.mark -= step;
                }
            }
            sort();
        }

        int shutNow() {
            int n = 0;
            for (Bottle b : bottles) if (b.shut != null) n++;
            return n;
        }
    }

    World w = new World();
    World snapshot;
    final List<World> history = new ArrayList<>();
    String text = "";
    int[] stop;

    Model() {
        for (int i = 0; i < 10; i++) {
            w.warm[i] = 200 - 20 * i;
            w.salt[i] = 340 + i;
        }
    }

    private int act(World before, int answer) {
        if (answer > -1000) {
            history.add(before);
            if (history.size() > 4) history.remove(0);
        }
        return answer;
    }

    int pay(int m) { return act(w.copy(), doPay(m)); }

    int setSlope(int s) { return act(w.copy(), doSlope(s)); }

    int clamp(boolean m) { return act(w.copy(), doClamp(m)); }

    int send() { return act(w.copy(), doSend()); }

    int pass(int s) { return act(w.copy(), doPass(s)); }

    private int doPay(int m) {
        if (m == 0 || m < -999 || m > 999) return -1002;
        if (w.paid + m < 0) return -1004;
        if (w.paid + m > 999) return -1003;
        w.paid += m;
        int had = w.messengers.size();
        w.messengers.removeIf(x -> x.mark > w.paid);
        w.back += had - w.messengers.size();
        if (m > w.set[1] || -m > w.set[1]) {
            Bottle least = null;
            for (Bottle b : w.bottles) {
                if (b.shut == null && b.mark < w.paid && (least == null || b.mark < least.mark)) least = b;
            }
            if (least != null) {
                w.shut(least);
                least.jerked = true;
            }
        }
        return had - w.messengers.size();
    }

    private int doSlope(int s) {
        if (s < 0 || s > 6) return -1002;
        int was = w.slope;
        w.slope = s;
        return s == was ? -1005 : was;
    }

    int weight(boolean lost) {
        World before = w.copy();
        if (!lost && w.lost && w.paid > 0) return -1004;
        if (lost == w.lost) return -1005;
        w.lost = lost;
        return act(before, w.counts());
    }

    private int doClamp(boolean m) {
        if (w.bottles.size() == 10) return -1003;
        for (Bottle b : w.bottles) if (Math.abs(b.mark - w.paid) < 5) return -1004;
        Bottle b = new Bottle();
        b.mark = w.paid;
        b.hangs = m;
        w.bottles.add(b);
        w.bottles.sort((x, y) -> Integer.compare(x.mark, y.mark));
        return w.bottles.indexOf(b);
    }

    int takeOff(int b) {
        if (b < 0 || b >= w.bottles.size()) return -1001;
        if (w.bottles.get(b).mark < w.paid) return -1004;
        World before = w.copy();
        w.bottles.remove(b);
        return act(before, w.bottles.size());
    }

    private int doSend() {
        if (w.paid == 0) return -1004;
        if (w.messengers.size() == 12) return -1003;
        w.start(w.paid);
        w.sort();
        w.sent++;
        return w.messengers.size();
    }

    private int doPass(int s) {
        if (s < 1 || s > 999) return -1002;
        if (w.second + s > 99999) return -1003;
        int had = w.shutNow();
        for (int i = 0; i < s; i++) w.tick();
        return w.shutNow() - had;
    }

    int setWater(int l, int warmth, int salt) {
        if (l < 0 || l > 9) return -1001;
        if (warmth < -20 || warmth > 300 || salt < 0 || salt > 420) return -1002;
        if (w.warm[l] == warmth && w.salt[l] == salt) return -1005;
        World before = w.copy();
        int was = w.warm[l];
        w.warm[l] = warmth;
        w.salt[l] = salt;
        return act(before, was);
    }

    int set(int which, int value) {
        if (which < 0 || which > 1) return -1001;
        if (value < which || value > 999) return -1002;
        if (w.set[which] == value) return -1005;
        World before = w.copy();
        int was = w.set[which];
        w.set[which] = value;
        return act(before, was);
    }

    int type(char c) {
        if (text.length() == 60) return -1003;
        text += c;
        return text.length();
    }

    int clearText() {
        int n = text.length();
        text = "";
        return n;
    }

    private int fault() {
        for (int i = 0; i < text.length(); i++) {
            Matcher m = CAST.matcher(text.substring(0, i + 1));
            if (!m.matches() && !m.hitEnd()) return i;
        }
        return CAST.matcher(text).matches() ? -1 : text.length();
    }

    int perform() {
        int fault = fault();
        if (fault >= 0) return -1100 - fault;
        World before = w.copy();
        String[] things = text.split(";");
        for (int i = 0; i < things.length; i++) {
            String number = things[i].substring(1);
            int n = number.isEmpty() ? 0 : Integer.parseInt(number);
            char kind = things[i].charAt(0);
            int answer = kind == '+' ? doPay(n) : kind == '-' ? doPay(-n) : kind == 'b' ? doClamp(false)
                : kind == 'm' ? doClamp(true) : kind == '!' ? doSend() : kind == '/' ? doSlope(n) : doPass(n);
            if (answer < -1000 && answer != -1005) {
                w = before;
                stop = new int[] {i, answer};
                return -1004;
            }
        }
        return act(before, things.length);
    }

    int stopped(int what) {
        if (what != 0 && what != 1) return -1002;
        return stop == null ? -1005 : stop[what];
    }

    int undo() {
        if (history.isEmpty()) return -1005;
        w = history.remove(history.size() - 1);
        return history.size();
    }

    int keep() {
        snapshot = w.copy();
        return w.bottles.size();
    }

    int restore() {
        if (snapshot == null) return -1005;
        World before = w;
        w = snapshot.copy();
        return act(before, w.bottles.size());
    }

    int bottle(int i, int what) {
        if (i < 0 || i >= w.bottles.size()) return -1001;
        if (what < 0 || what > 13) return -1002;
        Bottle b = w.bottles.get(i);
        if (what >= 6 && what <= 12 && b.shut == null) return -1005;
        switch (what) {
            case 0: return b.mark;
            case 1: return w.metre(b.mark);
            case 2: return w.deep(b.mark);
            case 3: return b.shut != null ? 1 : 0;
            case 4: return b.hangs ? 1 : 0;
            case 5: return b.struck;
            case 10: return b.pair();
            case 11: return b.shut[4];
            case 12: return b.off() > w.set[0] ? 1 : 0;
            case 13: return b.jerked ? 1 : 0;
            default: return b.shut[what - 6];
        }
    }

    int messenger(int rank, int what) {
        if (rank < 0 || what < 0 || what > 1) return -1002;
        if (rank >= w.messengers.size()) return -1005;
        int mark = w.messengers.get(rank).mark;
        return what == 0 ? mark : w.deep(mark);
    }

    int layer(int l, int what) {
        if (l < 0 || l > 9) return -1001;
        if (what < 0 || what > 3) return -1002;
        if (what < 2) return what == 0 ? w.warm[l] : w.salt[l];
        int n = 0;
        for (Bottle b : w.bottles) {
            boolean open = b.shut == null;
            if (what == 2 && open && b.mark < w.paid && Math.min(9, w.deep(b.mark) / 100) == l) n++;
            if (what == 3 && !open && Math.min(9, b.shut[5] / 100) == l) n++;
        }
        return n;
    }

    int depth(int metre, int slope) {
        if (metre < 0 || metre > 999 || slope < 0 || slope > 6) return -1002;
        return metre * DEPTHS[slope] / 1000;
    }

    int reason(int i) {
        if (i < 0 || i >= w.bottles.size()) return -1001;
        Bottle b = w.bottles.get(i);
        if (shutIn(i) > 0) return 0;
        if (b.shut != null) return 1;
        if (b.mark >= w.paid) return 2;
        if (w.counts() == 6) return 3;
        for (Messenger m : w.messengers) if (m.mark > b.mark) return 5;
        return 4;
    }

    int shutIn(int i) {
        if (i < 0 || i >= w.bottles.size()) return -1001;
        if (w.bottles.get(i).shut != null) return -1005;
        World later = w.copy();
        for (int n = 1; n <= 1100 && !later.messengers.isEmpty(); n++) {
            later.tick();
            if (later.bottles.get(i).shut != null) return n;
        }
        return -1005;
    }

    int quietIn() {
        World later = w.copy();
        for (int n = 0; n <= 1100; n++) {
            if (later.messengers.isEmpty()) return n;
            later.tick();
        }
        return -1005;
    }

    int worst() {
        List<Integer> offs = new ArrayList<>();
        for (Bottle b : w.bottles) offs.add(b.shut == null ? -1 : b.off());
        if (w.shutNow() == 0) return -1005;
        return offs.indexOf(Collections.max(offs));
    }

    int count(int what) {
        if (what < 0 || what > 18) return -1002;
        int wet = 0;
        int doubtful = 0;
        for (Bottle b : w.bottles) {
            if (b.mark < w.paid) wet++;
            if (b.shut != null && b.off() > w.set[0]) doubtful++;
        }
        return Arrays.asList(w.second, w.paid, w.slope, w.counts(), w.lost ? 1 : 0, w.bottles.size(), wet, w.shutNow(),
            doubtful, w.messengers.size(), w.sent, w.loose, w.stopped, w.gone, w.back, w.set[0], w.set[1], history.size(),
            text.length()).get(what);
    }
}
