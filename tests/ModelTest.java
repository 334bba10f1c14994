/** Many long runs of calls, the same ones each time, on the class and on the model beside it. */
public final class ModelTest {
    private static final int RUNS = 1500;
    private static final int CALLS = 512;

    private static long seed = 20261119;
    private static int calls;
    private static int compared;
    private static int wrong;
    private static String latest;
    private static MessengerCasts x;
    private static Model y;

    public static void main(String[] args) {
        Check.watch();
        int[] seen = new int[6];
        for (int run = 0; run < RUNS && wrong < 20; run++) {
            x = new MessengerCasts();
            y = new Model();
            calls = 0;
            while (calls < CALLS - 70 && wrong < 20) {
                act(run);
                for (int i = next(5); i > 0; i--) {
                    ask(run, seen);
                }
            }
            while (calls < CALLS) {
                ask(run, seen);
            }
        }
        for (int i = 0; i < seen.length; i++) {
            if (seen[i] == 0) {
                wrong++;
                System.out.println("the runs never met the reason " + i);
            }
        }
        System.out.println("ModelTest: " + compared + " answers, " + wrong + " wrong");
        if (wrong != 0) {
            System.exit(1);
        }
    }

    private static int next(int bound) {
        seed = seed * 6364136223846793005L + 1442695040888963407L;
        return (int) ((seed >>> 33) % bound);
    }

    private static int between(int least, int most) {
        return least + next(most - least + 1);
    }

    private static void same(int run, String call, int got, int want) {
        calls++;
        compared++;
        if (got != want) {
            wrong++;
            System.out.println("run " + run + ", call " + calls + ": " + call + " answered " + got
                + ", the model " + want + " (behind " + latest + ")");
        }
    }

    private static void act(int run) {
        switch (next(16)) {
            case 0: case 1: case 2: case 3:
                cable(run);
                return;
            case 4: case 5: case 6: {
                boolean m = next(3) > 0;
                latest = "clamp(" + m + ")";
                same(run, latest, x.clamp(m), y.clamp(m));
                return;
            }
            case 7: case 8: case 9:
                latest = "send()";
                same(run, latest, x.send(), y.send());
                return;
            case 10: case 11: {
                int s = next(12) == 0 ? between(-1, 1001) : next(3) == 0 ? between(1, 60) : between(1, 4);
                latest = "pass(" + s + ")";
                same(run, latest, x.pass(s), y.pass(s));
                return;
            }
            case 12:
                settings(run);
                return;
            case 13:
                states(run);
                return;
            case 14:
                cast(run);
                return;
            default: {
                int b = between(-1, 10);
                latest = "takeOff(" + b + ")";
                same(run, latest, x.takeOff(b), y.takeOff(b));
            }
        }
    }

    private static void cable(int run) {
        int kind = next(10);
        if (kind < 7) {
            int most = next(6) == 0 ? 1001 : next(2) == 0 ? 60 : 12;
            int m = next(5) < 3 ? between(0, most) : -between(0, most);
            latest = "pay(" + m + ")";
            same(run, latest, x.pay(m), y.pay(m));
        } else if (kind < 9) {
            int s = next(3) > 0 ? next(4) : between(-1, 7);
            latest = "setSlope(" + s + ")";
            same(run, latest, x.setSlope(s), y.setSlope(s));
        } else {
            boolean lost = next(2) == 0;
            latest = "weight(" + lost + ")";
            same(run, latest, x.weight(lost), y.weight(lost));
        }
    }

    private static void settings(int run) {
        if (next(2) == 0) {
            int l = between(-1, 10);
            int warmth = between(-21, 301);
            int salt = next(6) == 0 ? between(-1, 421) : 340 + l;
            latest = "setWater(" + l + ", " + warmth + ", " + salt + ")";
            same(run, latest, x.setWater(l, warmth, salt), y.setWater(l, warmth, salt));
        } else {
            int which = between(-1, 2);
            int value = next(3) > 0 ? between(0, 30) : between(-1, 1000);
            latest = "set(" + which + ", " + value + ")";
            same(run, latest, x.set(which, value), y.set(which, value));
        }
    }

    private static void states(int run) {
        int kind = next(5);
        latest = kind < 3 ? "undo()" : kind == 3 ? "keep()" : "restore()";
        if (kind < 3) {
            same(run, latest, x.undo(), y.undo());
        } else if (kind == 3) {
            same(run, latest, x.keep(), y.keep());
        } else {
            same(run, latest, x.restore(), y.restore());
        }
    }

    private static void cast(int run) {
        same(run, "clearText()", x.clearText(), y.clearText());
        String text = next(25) == 0 ? longText() : castText();
        for (int i = 0; i < text.length() && calls < CALLS - 2; i++) {
            same(run, "type", x.type(text.charAt(i)), y.type(text.charAt(i)));
        }
        latest = "perform() of \"" + text + "\"";
        same(run, latest, x.perform(), y.perform());
    }

    private static String longText() {
        StringBuilder text = new StringBuilder();
        while (text.length() < 62) {
            text.append(castText()).append(';');
        }
        return text.toString().substring(0, between(57, 62));
    }

    private static String castText() {
        StringBuilder text = new StringBuilder();
        for (int i = between(1, 5); i > 0; i--) {
            int number = next(8) == 0 ? between(0, 1100) : between(1, 25);
            switch (next(9)) {
                case 0: case 1: text.append('+').append(number); break;
                case 2: text.append('-').append(next(10)); break;
                case 3: text.append('b'); break;
                case 4: case 5: text.append('m'); break;
                case 6: text.append('!'); break;
                case 7: text.append('/').append(next(8)); break;
                default: text.append('.').append(next(12)); break;
            }
            if (i > 1) {
                text.append(';');
            }
        }
        if (next(4) == 0) {
            String signs = "+-.;/bm!0123456789 x";
            text.insert(next(text.length() + 1), signs.charAt(next(signs.length())));
        }
        return text.toString();
    }

    private static void ask(int run, int[] seen) {
        int a = between(-1, 11);
        int b = between(-1, 14);
        switch (next(11)) {
            case 0: case 1: case 2:
                same(run, "bottle(" + a + ", " + b + ")", x.bottle(a, b), y.bottle(a, b));
                return;
            case 3: {
                int what = next(20) == 0 ? b : next(2);
                same(run, "messenger(" + a + ", " + what + ")", x.messenger(a, what), y.messenger(a, what));
                return;
            }
            case 4: {
                int what = next(20) == 0 ? b : next(4);
                same(run, "layer(" + a + ", " + what + ")", x.layer(a, what), y.layer(a, what));
                return;
            }
            case 5: {
                int want = y.reason(a);
                if (want >= 0) {
                    seen[want]++;
                }
                same(run, "reason(" + a + ")", x.reason(a), want);
                return;
            }
            case 6:
                same(run, "shutIn(" + a + ")", x.shutIn(a), y.shutIn(a));
                return;
            case 7:
                same(run, "quietIn()", x.quietIn(), y.quietIn());
                return;
            case 8:
                same(run, "worst()", x.worst(), y.worst());
                return;
            case 9: {
                int what = between(-1, 19);
                same(run, "count(" + what + ")", x.count(what), y.count(what));
                return;
            }
            default:
                same(run, "stopped(" + (a & 1) + ")", x.stopped(a & 1), y.stopped(a & 1));
                same(run, "depth(" + a * b * 7 + ", " + b + ")", x.depth(a * b * 7, b), y.depth(a * b * 7, b));
        }
    }
}
