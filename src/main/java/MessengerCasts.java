/**
 * Bottles that shut on a cable by messengers.
 *
 * <p>An act is tried on the state in {@code now}; the state before it waits in {@code before} and
 * goes to the history only if the act neither fails nor answers NONE. All rows are made once, in the
 * constructors, so that no call makes an object.
 */
public final class MessengerCasts {
    public static final int UNKNOWN = -1001;
    public static final int BAD_VALUE = -1002;
    public static final int FULL = -1003;
    public static final int NOT_POSSIBLE = -1004;
    public static final int NONE = -1005;

    private static final int FAULT_BASE = -1100;
    private static final int NO_FAULT = -1;
    private static final int LONGEST_TEXT = 60;
    private static final int MOST_STATES = 4;

    private static final int MOST_PAID = 999;
    private static final int STEEPEST = 6;
    private static final int SLOPE_OF_LOST_WEIGHT = 2;
    private static final int FASTEST_STEP = 5;
    private static final int[] DEPTH_PER_MILLE = {1000, 985, 940, 866, 766, 643, 500};

    private static final int MOST_BOTTLES = 10;
    private static final int NEAREST_BOTTLES = 5;
    private static final int MOST_MESSENGERS = 12;
    private static final int LAST_SECOND = 99999;
    private static final int MOST_SECONDS = 999;
    // A messenger sinks in every second, so none is on its way this long.
    private static final int LONG_ENOUGH = 2000;

    private static final int LAYERS = 10;
    private static final int METRES_OF_LAYER = 100;
    private static final int COLDEST = -20;
    private static final int WARMEST = 300;
    private static final int SALTIEST = 420;
    private static final int METRES_OF_DEGREE = 10;

    private static final int SETTING_DOUBT = 0;
    private static final int SETTING_JERK = 1;
    private static final int MOST_SETTING = 999;

    private final State now;
    private final State before;
    private final State ahead;
    private final State kept;
    private boolean isKept;
    private final History history;
    private final Text text;
    private final Cast cast;
    private boolean wasStopped;
    private int stopNumber;
    private int stopError;

    public MessengerCasts() {
        now = new State();
        before = new State();
        ahead = new State();
        kept = new State();
        history = new History();
        text = new Text();
        cast = new Cast();
    }

    // ---- the cable

    public int pay(int metres) {
        before.copyFrom(now);
        return recorded(now.payOut(metres));
    }

    public int setSlope(int slope) {
        before.copyFrom(now);
        return recorded(now.changeSlope(slope));
    }

    public int weight(boolean lost) {
        before.copyFrom(now);
        return recorded(now.changeWeight(lost));
    }

    public int clamp(boolean messenger) {
        before.copyFrom(now);
        return recorded(now.addBottle(messenger));
    }

    public int takeOff(int bottle) {
        before.copyFrom(now);
        return recorded(now.removeBottle(bottle));
    }

    public int send() {
        before.copyFrom(now);
        return recorded(now.letGo());
    }

    public int pass(int seconds) {
        before.copyFrom(now);
        return recorded(now.letPass(seconds));
    }

    public int setWater(int layer, int warmth, int salt) {
        before.copyFrom(now);
        return recorded(now.water.change(layer, warmth, salt));
    }

    public int set(int which, int value) {
        before.copyFrom(now);
        return recorded(now.changeSetting(which, value));
    }

    // ---- texts

    public int type(char character) {
        return text.append(character) ? text.length : FULL;
    }

    public int clearText() {
        int had = text.length;
        text.length = 0;
        return had;
    }

    public int perform() {
        int fault = cast.read(text);
        if (fault != NO_FAULT) {
            return FAULT_BASE - fault;
        }
        before.copyFrom(now);
        for (int i = 0; i < cast.things; i++) {
            int answer = doThing(cast.kindAt(i), cast.numberAt(i));
            if (!isDone(answer) && answer != NONE) {
                now.copyFrom(before);
                rememberStop(i, answer);
                return NOT_POSSIBLE;
            }
        }
        history.add(before);
        return cast.things;
    }

    public int stopped(int what) {
        if (what < 0 || what > 1) {
            return BAD_VALUE;
        }
        if (!wasStopped) {
            return NONE;
        }
        return what == 0 ? stopNumber : stopError;
    }

    // ---- history

    public int undo() {
        return history.takeLatest(now) ? history.states : NONE;
    }

    public int keep() {
        kept.copyFrom(now);
        isKept = true;
        return now.bottleCount;
    }

    public int restore() {
        if (!isKept) {
            return NONE;
        }
        history.add(now);
        now.copyFrom(kept);
        return now.bottleCount;
    }

    // ---- what is told

    public int bottle(int bottle, int what) {
        Bottle asked = now.bottleAt(bottle);
        if (asked == null) {
            return UNKNOWN;
        }
        if (what < 0 || what > 13) {
            return BAD_VALUE;
        }
        return what >= 6 && what <= 12 ? tellOfShut(asked, what) : tellOfAny(asked, what);
    }

    public int messenger(int rank, int what) {
        if (rank < 0 || what < 0 || what > 1) {
            return BAD_VALUE;
        }
        if (rank >= now.messengers.onWay) {
            return NONE;
        }
        int mark = now.messengers.markAt(rank);
        return what == 0 ? mark : now.cable.depthOf(mark);
    }

    public int layer(int layer, int what) {
        if (!now.water.has(layer)) {
            return UNKNOWN;
        }
        switch (what) {
            case 0:
                return now.water.warmthIn(layer);
            case 1:
                return now.water.saltIn(layer);
            case 2:
                return now.openInLayer(layer);
            case 3:
                return now.shutInLayer(layer);
            default:
                return BAD_VALUE;
        }
    }

    public int depth(int metre, int slope) {
        if (metre < 0 || metre > MOST_PAID || slope < 0 || slope > STEEPEST) {
            return BAD_VALUE;
        }
        return depthAt(metre, slope);
    }

    public int reason(int bottle) {
        Bottle asked = now.bottleAt(bottle);
        if (asked == null) {
            return UNKNOWN;
        }
        if (asked.isShut) {
            return 1;
        }
        if (!now.cable.isInWater(asked.mark)) {
            return 2;
        }
        if (now.cable.isSticking()) {
            return 3;
        }
        if (!now.messengers.isAnyAbove(asked.mark)) {
            return 4;
        }
        return secondsToShut(bottle) == NONE ? 5 : 0;
    }

    public int shutIn(int bottle) {
        Bottle asked = now.bottleAt(bottle);
        if (asked == null) {
            return UNKNOWN;
        }
        return asked.isShut ? NONE : secondsToShut(bottle);
    }

    public int quietIn() {
        if (now.messengers.onWay == 0) {
            return 0;
        }
        if (now.cable.isSticking()) {
            return NONE;
        }
        ahead.copyFrom(now);
        return ahead.runUntilQuiet();
    }

    public int worst() {
        int found = NONE;
        int most = -1;
        for (int i = 0; i < now.bottleCount; i++) {
            Bottle one = now.bottleAt(i);
            if (one != null && one.isShut && one.difference() > most) {
                found = i;
                most = one.difference();
            }
        }
        return found;
    }

    public int count(int what) {
        if (what < 0 || what > 18) {
            return BAD_VALUE;
        }
        return what <= 8 ? countOnCable(what) : countOthers(what);
    }

    // ---- helpers

    private static int depthAt(int metre, int slope) {
        if (slope < 0 || slope >= DEPTH_PER_MILLE.length) {
            return 0;
        }
        return metre * DEPTH_PER_MILLE[slope] / 1000;
    }

    private static int layerAt(int depth) {
        return Math.min(LAYERS - 1, depth / METRES_OF_LAYER);
    }

    // All errors and NONE lie at UNKNOWN or below it, all other answers above it.
    private static boolean isDone(int answer) {
        return answer > UNKNOWN;
    }

    private int recorded(int answer) {
        if (isDone(answer)) {
            history.add(before);
        }
        return answer;
    }

    private void rememberStop(int number, int error) {
        wasStopped = true;
        stopNumber = number;
        stopError = error;
    }

    private int doThing(char kind, int number) {
        switch (kind) {
            case '+':
                return now.payOut(number);
            case '-':
                return now.payOut(-number);
            case 'b':
                return now.addBottle(false);
            case 'm':
                return now.addBottle(true);
            case '!':
                return now.letGo();
            case '/':
                return now.changeSlope(number);
            case '.':
                return now.letPass(number);
            default:
                return BAD_VALUE;
        }
    }

    private int secondsToShut(int bottle) {
        ahead.copyFrom(now);
        return ahead.runUntilShut(bottle);
    }

    private int tellOfAny(Bottle asked, int what) {
        switch (what) {
            case 0:
                return asked.mark;
            case 1:
                return now.cable.metreOf(asked.mark);
            case 2:
                return now.cable.depthOf(asked.mark);
            case 3:
                return asked.isShut ? 1 : 0;
            case 4:
                return asked.hasMessenger ? 1 : 0;
            case 5:
                return asked.struck;
            default:
                return asked.isJerked ? 1 : 0;
        }
    }

    private int tellOfShut(Bottle asked, int what) {
        if (!asked.isShut) {
            return NONE;
        }
        switch (what) {
            case 6:
                return asked.shutSecond;
            case 7:
                return asked.guarded;
            case 8:
                return asked.bare;
            case 9:
                return asked.salt;
            case 10:
                return asked.depthByPair();
            case 11:
                return asked.shutMetre;
            default:
                return now.isDoubtful(asked) ? 1 : 0;
        }
    }

    private int countOnCable(int what) {
        switch (what) {
            case 0:
                return now.second;
            case 1:
                return now.cable.paid;
            case 2:
                return now.cable.slope;
            case 3:
                return now.cable.countedSlope();
            case 4:
                return now.cable.isWeightLost ? 1 : 0;
            case 5:
                return now.bottleCount;
            case 6:
                return now.bottlesInWater();
            case 7:
                return now.shutBottles();
            default:
                return now.doubtfulBottles();
        }
    }

    private int countOthers(int what) {
        switch (what) {
            case 9:
                return now.messengers.onWay;
            case 10:
                return now.messengers.letGo;
            case 11:
                return now.messengers.letLoose;
            case 12:
                return now.messengers.stoppedAtBottles;
            case 13:
                return now.messengers.gone;
            case 14:
                return now.messengers.takenBack;
            case 15:
                return now.doubtFrom;
            case 16:
                return now.jerkFrom;
            case 17:
                return history.states;
            default:
                return text.length;
        }
    }

    /** The cable: what is paid out, how it hangs, and where its places are. */
    private static final class Cable {
        int paid;
        int slope;
        boolean isWeightLost;

        void copyFrom(Cable other) {
            paid = other.paid;
            slope = other.slope;
            isWeightLost = other.isWeightLost;
        }

        int countedSlope() {
            return isWeightLost ? Math.min(STEEPEST, slope + SLOPE_OF_LOST_WEIGHT) : slope;
        }

        boolean isSticking() {
            return countedSlope() >= STEEPEST;
        }

        int step() {
            return Math.max(1, FASTEST_STEP - countedSlope());
        }

        boolean isInWater(int mark) {
            return mark < paid;
        }

        int metreOf(int mark) {
            return isInWater(mark) ? paid - mark : 0;
        }

        int depthOf(int mark) {
            return depthAt(metreOf(mark), countedSlope());
        }
    }

    /** A bottle; what it kept as it shut means nothing while it is open. */
    private static final class Bottle {
        int mark;
        boolean hasMessenger;
        int struck;
        boolean isShut;
        boolean isJerked;
        int shutSecond;
        int shutMetre;
        int shutLayer;
        int guarded;
        int bare;
        int salt;

        void clampAt(int place, boolean messenger) {
            mark = place;
            hasMessenger = messenger;
            struck = 0;
            isShut = false;
            isJerked = false;
        }

        void copyFrom(Bottle other) {
            mark = other.mark;
            hasMessenger = other.hasMessenger;
            struck = other.struck;
            isShut = other.isShut;
            isJerked = other.isJerked;
            shutSecond = other.shutSecond;
            shutMetre = other.shutMetre;
            shutLayer = other.shutLayer;
            guarded = other.guarded;
            bare = other.bare;
            salt = other.salt;
        }

        int depthByPair() {
            return (bare - guarded) * METRES_OF_DEGREE;
        }

        int difference() {
            return Math.abs(depthByPair() - shutMetre);
        }
    }

    /** The water's layers. */
    private static final class Water {
        final int[] warmths = new int[LAYERS];
        final int[] salts = new int[LAYERS];

        Water() {
            for (int i = 0; i < LAYERS; i++) {
                warmths[i] = 200 - 20 * i;
                salts[i] = 340 + i;
            }
        }

        void copyFrom(Water other) {
            for (int i = 0; i < LAYERS; i++) {
                warmths[i] = other.warmths[i];
                salts[i] = other.salts[i];
            }
        }

        boolean has(int number) {
            return number >= 0 && number < LAYERS;
        }

        int warmthIn(int number) {
            return has(number) ? warmths[number] : 0;
        }

        int saltIn(int number) {
            return has(number) ? salts[number] : 0;
        }

        int change(int number, int warmth, int salt) {
            if (!has(number)) {
                return UNKNOWN;
            }
            if (warmth < COLDEST || warmth > WARMEST || salt < 0 || salt > SALTIEST) {
                return BAD_VALUE;
            }
            int previous = warmths[number];
            if (previous == warmth && salts[number] == salt) {
                return NONE;
            }
            warmths[number] = warmth;
            salts[number] = salt;
            return previous;
        }
    }

    /**
     * The messengers on their way, and the accounts of all of them. Only marks are held: they are
     * rising, and of one mark those stand first that are on their way longer, because one that is
     * let go comes behind all others and all go on by the same step.
     */
    private static final class Messengers {
        final int[] marks = new int[MOST_MESSENGERS];
        int onWay;
        int letGo;
        int letLoose;
        int stoppedAtBottles;
        int gone;
        int takenBack;

        void copyFrom(Messengers other) {
            for (int i = 0; i < MOST_MESSENGERS; i++) {
                marks[i] = other.marks[i];
            }
            onWay = other.onWay;
            letGo = other.letGo;
            letLoose = other.letLoose;
            stoppedAtBottles = other.stoppedAtBottles;
            gone = other.gone;
            takenBack = other.takenBack;
        }

        int markAt(int rank) {
            return rank >= 0 && rank < MOST_MESSENGERS ? marks[rank] : 0;
        }

        void put(int rank, int mark) {
            if (rank >= 0 && rank < MOST_MESSENGERS) {
                marks[rank] = mark;
            }
        }

        boolean isAnyAbove(int mark) {
            return onWay > 0 && markAt(onWay - 1) > mark;
        }

        int takeBackAbove(int highest) {
            int had = onWay;
            for (int i = had - 1; i >= 0 && markAt(i) > highest; i--) {
                onWay = i;
            }
            takenBack += had - onWay;
            return had - onWay;
        }

        void sinkAll(int metres) {
            for (int i = 0; i < onWay; i++) {
                put(i, markAt(i) - metres);
            }
        }
    }

    /** All that undo and the snapshot bring back. */
    private static final class State {
        final Cable cable = new Cable();
        final Water water = new Water();
        final Messengers messengers = new Messengers();
        // The bottles on the cable by rising marks, behind them those that are not in use.
        final Bottle[] bottles = new Bottle[MOST_BOTTLES];
        int bottleCount;
        int second;
        int doubtFrom = 20;
        int jerkFrom = 200;

        State() {
            for (int i = 0; i < MOST_BOTTLES; i++) {
                bottles[i] = new Bottle();
            }
        }

        void copyFrom(State other) {
            cable.copyFrom(other.cable);
            water.copyFrom(other.water);
            messengers.copyFrom(other.messengers);
            bottleCount = other.bottleCount;
            second = other.second;
            doubtFrom = other.doubtFrom;
            jerkFrom = other.jerkFrom;
            for (int i = 0; i < bottleCount; i++) {
                Bottle mine = bottleAt(i);
                Bottle theirs = other.bottleAt(i);
                if (mine != null && theirs != null) {
                    mine.copyFrom(theirs);
                }
            }
        }

        Bottle bottleAt(int rank) {
            return rank >= 0 && rank < bottleCount && rank < MOST_BOTTLES ? bottles[rank] : null;
        }

        // ---- acts; each answers as the call that does it, and changes nothing on an error

        int payOut(int metres) {
            if (metres < -MOST_PAID || metres > MOST_PAID || metres == 0) {
                return BAD_VALUE;
            }
            int paid = cable.paid + metres;
            if (paid < 0) {
                return NOT_POSSIBLE;
            }
            if (paid > MOST_PAID) {
                return FULL;
            }
            cable.paid = paid;
            if (Math.abs(metres) > jerkFrom) {
                jerk();
            }
            return messengers.takeBackAbove(paid);
        }

        int changeSlope(int slope) {
            if (slope < 0 || slope > STEEPEST) {
                return BAD_VALUE;
            }
            int previous = cable.slope;
            if (previous == slope) {
                return NONE;
            }
            cable.slope = slope;
            return previous;
        }

        int changeWeight(boolean isLost) {
            if (cable.isWeightLost && !isLost && cable.paid > 0) {
                return NOT_POSSIBLE;
            }
            if (cable.isWeightLost == isLost) {
                return NONE;
            }
            cable.isWeightLost = isLost;
            return cable.countedSlope();
        }

        int addBottle(boolean messenger) {
            if (bottleCount >= MOST_BOTTLES) {
                return FULL;
            }
            int rank = 0;
            for (int i = 0; i < bottleCount; i++) {
                Bottle one = bottleAt(i);
                if (one != null && Math.abs(one.mark - cable.paid) < NEAREST_BOTTLES) {
                    return NOT_POSSIBLE;
                }
                if (one != null && one.mark < cable.paid) {
                    rank = i + 1;
                }
            }
            insertBottle(rank, messenger);
            return rank;
        }

        int removeBottle(int rank) {
            Bottle taken = bottleAt(rank);
            if (taken == null) {
                return UNKNOWN;
            }
            if (cable.isInWater(taken.mark)) {
                return NOT_POSSIBLE;
            }
            for (int i = rank; i >= 0 && i < bottleCount - 1 && i < MOST_BOTTLES - 1; i++) {
                bottles[i] = bottles[i + 1];
            }
            bottleCount--;
            if (bottleCount >= 0 && bottleCount < MOST_BOTTLES) {
                bottles[bottleCount] = taken;
            }
            return bottleCount;
        }

        int letGo() {
            if (cable.paid == 0) {
                return NOT_POSSIBLE;
            }
            if (messengers.onWay >= MOST_MESSENGERS) {
                return FULL;
            }
            messengers.put(messengers.onWay, cable.paid);
            messengers.onWay++;
            messengers.letGo++;
            return messengers.onWay;
        }

        int letPass(int seconds) {
            if (seconds < 1 || seconds > MOST_SECONDS) {
                return BAD_VALUE;
            }
            if (second + seconds > LAST_SECOND) {
                return FULL;
            }
            int shutBefore = shutBottles();
            int end = second + seconds;
            for (int i = 0; i < seconds && second < end; i++) {
                skipQuietSeconds(end - second - 1);
                passOneSecond();
            }
            return shutBottles() - shutBefore;
        }

        int changeSetting(int which, int value) {
            if (which != SETTING_DOUBT && which != SETTING_JERK) {
                return UNKNOWN;
            }
            int least = which == SETTING_JERK ? 1 : 0;
            if (value < least || value > MOST_SETTING) {
                return BAD_VALUE;
            }
            int previous = which == SETTING_JERK ? jerkFrom : doubtFrom;
            if (previous == value) {
                return NONE;
            }
            if (which == SETTING_JERK) {
                jerkFrom = value;
            } else {
                doubtFrom = value;
            }
            return previous;
        }

        // ---- what comes of acts

        void insertBottle(int rank, boolean messenger) {
            if (rank < 0 || rank > bottleCount || bottleCount < 0 || bottleCount >= MOST_BOTTLES) {
                return;
            }
            Bottle fresh = bottles[bottleCount];
            for (int i = bottleCount; i > rank; i--) {
                bottles[i] = bottles[i - 1];
            }
            bottles[rank] = fresh;
            bottleCount++;
            if (fresh != null) {
                fresh.clampAt(cable.paid, messenger);
            }
        }

        void jerk() {
            for (int i = 0; i < bottleCount; i++) {
                Bottle one = bottleAt(i);
                if (one != null && !one.isShut && cable.isInWater(one.mark)) {
                    shut(one);
                    one.isJerked = true;
                    return;
                }
            }
        }

        // Only for a bottle in the water.
        void shut(Bottle one) {
            int metre = cable.paid - one.mark;
            int depth = depthAt(metre, cable.countedSlope());
            one.isShut = true;
            one.shutSecond = second;
            one.shutMetre = metre;
            one.shutLayer = layerAt(depth);
            one.guarded = water.warmthIn(one.shutLayer);
            one.bare = one.guarded + depth / METRES_OF_DEGREE;
            one.salt = water.saltIn(one.shutLayer);
        }

        // Seconds in which no messenger strikes or is gone are passed at once, for speed alone.
        void skipQuietSeconds(int most) {
            int quiet = most;
            if (!cable.isSticking()) {
                for (int i = 0; i < messengers.onWay; i++) {
                    quiet = Math.min(quiet, secondsOnWay(messengers.markAt(i)) - 1);
                }
                messengers.sinkAll(quiet * cable.step());
            }
            second += quiet;
        }

        int secondsOnWay(int mark) {
            int step = cable.step();
            int end = 0;
            for (int i = 0; i < bottleCount; i++) {
                Bottle one = bottleAt(i);
                if (one != null && one.mark < mark) {
                    end = one.mark;
                }
            }
            return step < 1 ? 1 : Math.max(1, (mark - end + step - 1) / step);
        }

        void passOneSecond() {
            second++;
            if (cable.isSticking()) {
                return;
            }
            // Whoever stays on its way takes the first free place: a messenger that is let loose
            // that of the one which struck. So the order by marks is kept.
            int left = 0;
            for (int i = 0; i < messengers.onWay; i++) {
                int from = messengers.markAt(i);
                int to = from - cable.step();
                Bottle struck = firstBottleBetween(from, to);
                if (struck != null) {
                    messengers.stoppedAtBottles++;
                    if (strike(struck)) {
                        messengers.put(left, struck.mark);
                        left++;
                    }
                } else if (to <= 0) {
                    messengers.gone++;
                } else {
                    messengers.put(left, to);
                    left++;
                }
            }
            messengers.onWay = left;
        }

        Bottle firstBottleBetween(int from, int to) {
            for (int i = bottleCount - 1; i >= 0; i--) {
                Bottle one = bottleAt(i);
                if (one != null && one.mark < from && one.mark >= to && cable.isInWater(one.mark)) {
                    return one;
                }
            }
            return null;
        }

        // Answers whether a messenger is let loose by it.
        boolean strike(Bottle one) {
            one.struck++;
            if (one.isShut) {
                return false;
            }
            shut(one);
            if (!one.hasMessenger) {
                return false;
            }
            one.hasMessenger = false;
            messengers.letLoose++;
            return true;
        }

        // ---- what will be; only for a state that is thrown away behind it

        int runUntilShut(int rank) {
            Bottle asked = bottleAt(rank);
            int start = second;
            for (int i = 0; i < LONG_ENOUGH && messengers.onWay > 0 && !cable.isSticking(); i++) {
                skipQuietSeconds(LONG_ENOUGH);
                passOneSecond();
                if (asked != null && asked.isShut) {
                    return second - start;
                }
            }
            return NONE;
        }

        int runUntilQuiet() {
            int start = second;
            for (int i = 0; i < LONG_ENOUGH && messengers.onWay > 0 && !cable.isSticking(); i++) {
                skipQuietSeconds(LONG_ENOUGH);
                passOneSecond();
            }
            return second - start;
        }

        // ---- what is counted

        boolean isDoubtful(Bottle one) {
            return one.isShut && one.difference() > doubtFrom;
        }

        int bottlesInWater() {
            int found = 0;
            for (int i = 0; i < bottleCount; i++) {
                Bottle one = bottleAt(i);
                if (one != null && cable.isInWater(one.mark)) {
                    found++;
                }
            }
            return found;
        }

        int shutBottles() {
            int found = 0;
            for (int i = 0; i < bottleCount; i++) {
                Bottle one = bottleAt(i);
                if (one != null && one.isShut) {
                    found++;
                }
            }
            return found;
        }

        int doubtfulBottles() {
            int found = 0;
            for (int i = 0; i < bottleCount; i++) {
                Bottle one = bottleAt(i);
                if (one != null && isDoubtful(one)) {
                    found++;
                }
            }
            return found;
        }

        int openInLayer(int number) {
            int found = 0;
            for (int i = 0; i < bottleCount; i++) {
                Bottle one = bottleAt(i);
                if (one != null && !one.isShut && cable.isInWater(one.mark)
                        && layerAt(cable.depthOf(one.mark)) == number) {
                    found++;
                }
            }
            return found;
        }

        int shutInLayer(int number) {
            int found = 0;
            for (int i = 0; i < bottleCount; i++) {
                Bottle one = bottleAt(i);
                if (one != null && one.isShut && one.shutLayer == number) {
                    found++;
                }
            }
            return found;
        }
    }

    /** The states that undo brings back, the oldest first. */
    private static final class History {
        final State[] rows = new State[MOST_STATES];
        int states;

        History() {
            for (int i = 0; i < MOST_STATES; i++) {
                rows[i] = new State();
            }
        }

        void add(State state) {
            if (states >= MOST_STATES) {
                dropOldest();
            }
            State row = states >= 0 && states < MOST_STATES ? rows[states] : null;
            if (row != null) {
                row.copyFrom(state);
                states++;
            }
        }

        // The row of the dropped state is used again, so it goes to the end.
        void dropOldest() {
            State oldest = rows[0];
            for (int i = 0; i < MOST_STATES - 1; i++) {
                rows[i] = rows[i + 1];
            }
            rows[MOST_STATES - 1] = oldest;
            states = MOST_STATES - 1;
        }

        boolean takeLatest(State into) {
            int latest = states - 1;
            State row = latest >= 0 && latest < MOST_STATES ? rows[latest] : null;
            if (row == null) {
                return false;
            }
            into.copyFrom(row);
            states = latest;
            return true;
        }
    }

    /** The text that is typed. */
    private static final class Text {
        final char[] characters = new char[LONGEST_TEXT];
        int length;

        boolean append(char character) {
            if (length < 0 || length >= LONGEST_TEXT) {
                return false;
            }
            characters[length] = character;
            length++;
            return true;
        }

        // Behind the end there is the character 0, which no cast allows anywhere.
        char at(int place) {
            return place >= 0 && place < length && place < LONGEST_TEXT ? characters[place] : (char) 0;
        }

        int digitAt(int place) {
            char character = at(place);
            return character >= '0' && character <= '9' ? character - '0' : -1;
        }
    }

    /** The things of a cast, read from a text. */
    private static final class Cast {
        final char[] kinds = new char[LONGEST_TEXT];
        final int[] numbers = new int[LONGEST_TEXT];
        int things;
        int place;

        char kindAt(int number) {
            return number >= 0 && number < LONGEST_TEXT ? kinds[number] : (char) 0;
        }

        int numberAt(int number) {
            return number >= 0 && number < LONGEST_TEXT ? numbers[number] : 0;
        }

        // Answers the fault, or NO_FAULT.
        int read(Text text) {
            things = 0;
            place = 0;
            for (int i = 0; i <= LONGEST_TEXT; i++) {
                if (!readThing(text)) {
                    return place;
                }
                if (place >= text.length) {
                    return NO_FAULT;
                }
                if (text.at(place) != ';') {
                    return place;
                }
                place++;
            }
            return place;
        }

        // Answers whether a thing stands there; if not, the place is that of the fault.
        boolean readThing(Text text) {
            char kind = text.at(place);
            switch (kind) {
                case 'b':
                case 'm':
                case '!':
                    place++;
                    addThing(kind, 0);
                    return true;
                case '+':
                case '-':
                case '.':
                    place++;
                    return readNumber(text, kind, 1, 999);
                case '/':
                    place++;
                    return readNumber(text, kind, 0, STEEPEST);
                default:
                    return false;
            }
        }

        // A digit that is too much is left: it is no ";", so read() tells the fault there.
        boolean readNumber(Text text, char kind, int least, int most) {
            int number = text.digitAt(place);
            if (number < least || number > most) {
                return false;
            }
            place++;
            for (int i = 0; i < LONGEST_TEXT && number > 0; i++) {
                int digit = text.digitAt(place);
                if (digit < 0 || number * 10 + digit > most) {
                    break;
                }
                number = number * 10 + digit;
                place++;
            }
            addThing(kind, number);
            return true;
        }

        void addThing(char kind, int number) {
            if (things >= 0 && things < LONGEST_TEXT) {
                kinds[things] = kind;
                numbers[things] = number;
                things++;
            }
        }
    }
}
