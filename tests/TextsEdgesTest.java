import java.util.regex.Matcher;
import java.util.regex.Pattern;

/** The boundary cases of promises 11 to 14, and of "TEXTS", each sentence in a method of its own. */
public final class TextsEdgesTest {
    private static final int MIN = Integer.MIN_VALUE;
    private static final int MAX = Integer.MAX_VALUE;
    private static final String KINDS = "+-bm!/.";
    private static final String THING = "(?:[+.-][1-9][0-9]{0,2}|[bm!]|/[0-6])";
    private static final Pattern CAST = Pattern.compile(THING + "(?:;" + THING + ")*", Pattern.DOTALL);

    private static MessengerCasts shared = new MessengerCasts();
    private static int sharedCalls;

    public static void main(String[] args) {
        promise11AtMost60Characters();
        promise11AnyCharacter();
        promise12EmptyAndFull();
        promise13EmptyText();
        promise13EachNumber();
        promise13EachSlope();
        promise13NoZeroInFront();
        promise13EachCharacterAtEachPlace();
        promise13AllShortTexts();
        promise13EndsTooEarly();
        promise13FullTexts();
        promise13HowManyThings();
        promise13ThingsAreAsTheCalls();
        promise13NoneDoesNotStop();
        promise13AllOrNothing();
        promise13TheTextStays();
        promise14WhatNoughtOr1();
        promise14NoneYet();
        promise14Numbers();
        promise14TheLatest();
        Check.finish("TextsEdgesTest");
    }

    /** What perform() answers, on objects that are used for many texts: only faults are asked for. */
    private static int perform(String text) {
        sharedCalls += text.length() + 2;
        if (sharedCalls > 500) {
            shared = new MessengerCasts();
            sharedCalls = text.length() + 2;
        }
        return Check.perform(shared, text);
    }

    private static int faultBy(int answer) {
        return answer <= -1100 ? -1100 - answer : -1;
    }

    private static void fault(String text, int place) {
        Check.due(13, "the fault of \"" + text + "\"", faultBy(perform(text)), place);
    }

    private static int faultByPattern(String text) {
        for (int i = 0; i < text.length(); i++) {
            Matcher matcher = CAST.matcher(text.substring(0, i + 1));
            if (!matcher.matches() && !matcher.hitEnd()) {
                return i;
            }
        }
        return CAST.matcher(text).matches() ? -1 : text.length();
    }

    /** "A text of at most 60 characters, empty at first"; "FULL if it has 60 characters". */
    private static void promise11AtMost60Characters() {
        MessengerCasts x = new MessengerCasts();
        Check.due(11, "count(18) at first", x.count(18), 0);
        for (int i = 1; i <= 60; i++) {
            Check.due(11, "type('b'), " + (i - 1) + " are there", x.type('b'), i);
            Check.due(11, "count(18)", x.count(18), i);
        }
        Check.due(11, "type('b'), 60 are there", x.type('b'), Check.FULL);
        Check.due(11, "type(';'), 60 are there", x.type(';'), Check.FULL);
        Check.due(11, "count(18)", x.count(18), 60);
        Check.due(12, "clearText()", x.clearText(), 60);
        Check.due(11, "type('b') behind it", x.type('b'), 1);
        Check.due(11, "perform() of b", x.perform(), 1);
        // What is refused is not typed: 59 of a cast, its 60th, and no 61st.
        MessengerCasts y = new MessengerCasts();
        Check.write(y, "/1;/2;/1;/2;/1;/2;/1;/2;/1;/2;/1;/2;/1;/2;/1;/2;/1;/2;/1;+19");
        Check.due(11, "count(18)", y.count(18), 60);
        Check.due(11, "type('9'), 60 are there", y.type('9'), Check.FULL);
        Check.due(11, "perform()", y.perform(), 20);
        Check.due(11, "count(1)", y.count(1), 19);
    }

    private static void promise11AnyCharacter() {
        MessengerCasts x = new MessengerCasts();
        int[] signs = {0, 1, 10, 13, 32, 48, 127, 128, 255, 256, 0x7fff, 0x8000, 0xd800, 0xdfff, 0xfffe, 0xffff};
        for (int i = 0; i < signs.length; i++) {
            Check.due(11, "type((char) " + signs[i] + ")", x.type((char) signs[i]), i + 1);
        }
        Check.due(12, "clearText()", x.clearText(), signs.length);
    }

    private static void promise12EmptyAndFull() {
        MessengerCasts x = new MessengerCasts();
        Check.due(12, "clearText() of the empty text", x.clearText(), 0);
        for (int length : new int[] {1, 2, 59, 60}) {
            for (int i = 0; i < length; i++) {
                x.type('m');
            }
            Check.due(12, "clearText() of " + length, x.clearText(), length);
            Check.due(12, "count(18)", x.count(18), 0);
            Check.due(12, "clearText() again", x.clearText(), 0);
            Check.due(13, "perform()", x.perform(), -1100);
        }
    }

    /** "The empty text does" end too early. */
    private static void promise13EmptyText() {
        MessengerCasts x = new MessengerCasts();
        Check.due(13, "perform() of the empty text", x.perform(), -1100);
        x.type('b');
        x.clearText();
        Check.due(13, "perform() of the cleared text", x.perform(), -1100);
        Check.due(13, "count(5)", x.count(5), 0);
        Check.due(13, "count(17)", x.count(17), 0);
    }

    /** "Metres (1 to 999)", "seconds (1 to 999)": each number from 0 to 1100, alone and behind another thing. */
    private static void promise13EachNumber() {
        for (char kind : "+-.".toCharArray()) {
            for (int number = 0; number <= 1100; number++) {
                int place = number == 0 ? 1 : number > 999 ? 4 : -1;
                fault("" + kind + number, place);
                if (number < 12 || number > 988 && number < 1012 || number % 100 == 0) {
                    fault("b;" + kind + number, place < 0 ? -1 : place + 2);
                    fault(kind + "" + number + ";b", place);
                    fault(kind + "" + number + "b", place < 0 ? ("" + number).length() + 1 : place);
                }
            }
        }
        // The number that is read is the one that is done.
        for (int number = 1; number <= 999; number += number < 12 || number > 988 ? 1 : 97) {
            MessengerCasts x = new MessengerCasts();
            Check.due(13, "perform() of +" + number, Check.perform(x, "+" + number), 1);
            Check.due(13, "count(1)", x.count(1), number);
            Check.due(13, "perform() of ." + number, Check.perform(x, "." + number), 1);
            Check.due(13, "count(0)", x.count(0), number);
            int left = number == 999 ? 0 : 999 - number;
            if (left > 0) {
                x.pay(left);
            }
            Check.due(13, "perform() of -" + number, Check.perform(x, "-" + number), 1);
            Check.due(13, "count(1)", x.count(1), 999 - number);
        }
    }

    /** "A slope (0 to 6)". */
    private static void promise13EachSlope() {
        for (int slope = 0; slope <= 120; slope++) {
            int place = slope <= 6 ? -1 : slope <= 9 ? 1 : ("" + slope).charAt(0) > '6' ? 1 : 2;
            fault("/" + slope, place);
            fault("/" + slope + ";b", place);
            fault("!;/" + slope, place < 0 ? -1 : place + 2);
        }
        for (int slope = 0; slope <= 6; slope++) {
            MessengerCasts x = new MessengerCasts();
            x.setSlope((slope + 1) % 7);
            Check.due(13, "perform() of /" + slope, Check.perform(x, "/" + slope), 1);
            Check.due(13, "count(2)", x.count(2), slope);
        }
    }

    /** "Numbers have no zero in front, unless they are the single digit 0". */
    private static void promise13NoZeroInFront() {
        for (char kind : "+-.".toCharArray()) {
            fault(kind + "0", 1);
            fault(kind + "00", 1);
            fault(kind + "01", 1);
            fault(kind + "09", 1);
            fault(kind + "10", -1);
            fault(kind + "100", -1);
            fault(kind + "101", -1);
            fault(kind + "1000", 4);
        }
        fault("/0", -1);
        fault("/00", 2);
        fault("/01", 2);
        fault("/06", 2);
        fault("/0;/0", -1);
        fault("/10", 2);
    }

    /** "The first character that is not allowed at its place": all 65536 of them behind each kind of beginning. */
    private static void promise13EachCharacterAtEachPlace() {
        String digits = "0123456789";
        String[][] rows = {
            {"", KINDS}, {"b;", KINDS}, {"+1;", KINDS}, {"b", ";"}, {"m", ";"}, {"!", ";"}, {"/0", ";"}, {"/6", ";"},
            {"/", "0123456"}, {"+", "123456789"}, {"-", "123456789"}, {".", "123456789"}, {"+1", digits + ";"},
            {".9", digits + ";"}, {"-10", digits + ";"}, {"+99", digits + ";"}, {"-999", ";"}, {".100", ";"},
            {"+998", ";"}};
        for (String[] row : rows) {
            int wrong = 0;
            int first = -1;
            for (int sign = 0; sign <= 0xffff; sign++) {
                boolean isAllowed = row[1].indexOf((char) sign) >= 0;
                int fault = faultBy(perform(row[0] + (char) sign));
                if ((fault != row[0].length()) != isAllowed) {
                    wrong++;
                    first = first < 0 ? sign : first;
                }
            }
            Check.due(13, "characters judged wrongly behind \"" + row[0] + "\", the first is " + first, wrong, 0);
        }
    }

    /** All texts of up to four characters of these, and their faults as a pattern tells them. */
    private static void promise13AllShortTexts() {
        String signs = "+/.b;0169x";
        int count = 1;
        for (int length = 0; length <= 4; length++) {
            for (int i = 0; i < count; i++) {
                StringBuilder text = new StringBuilder();
                for (int left = i, j = 0; j < length; j++, left /= signs.length()) {
                    text.append(signs.charAt(left % signs.length()));
                }
                fault(text.toString(), faultByPattern(text.toString()));
            }
            count *= signs.length();
        }
    }

    /** "Or the length of the text if it ends too early". */
    private static void promise13EndsTooEarly() {
        String[] early = {"+", "-", "/", ".", "b;", "m;", "!;", "+1;", "-999;", "/0;", ".10;", "b;+", "b;m;!;/", "b;b;"};
        for (String text : early) {
            fault(text, text.length());
        }
        String[] whole = {"b", "m", "!", "+1", "-9", "/0", ".999", "b;m", "+1;-1", "/6;!", ".1;.1;.1"};
        for (String text : whole) {
            fault(text, -1);
            fault(text + ";", text.length() + 1);
            fault(text + ";;", text.length() + 1);
            fault(";" + text, 0);
            fault(text + " ", text.length());
            fault(" " + text, 0);
            fault(text + (char) 0, text.length());
        }
    }

    private static String row(String thing, int length) {
        StringBuilder text = new StringBuilder();
        while (text.length() < length) {
            text.append(thing);
        }
        text.setLength(length);
        return text.toString();
    }

    /** Texts of 58, 59 and 60 characters, whole and with a fault at each place. */
    private static void promise13FullTexts() {
        fault(row("b;", 58), 58);
        fault(row("b;", 59), -1);
        fault(row("b;", 60), 60);
        fault(row("/0;", 59), -1);
        fault(row("/0;", 60), 60);
        fault(row("/0;", 58), 58);
        fault(row("+999;", 59), -1);
        fault(row("+999;", 60), 60);
        fault(row("b;/0;", 60), 60);
        fault(row("/0;b;", 59), -1);
        fault(row("b;", 57) + ";+9", -1);
        fault(row("b;", 57) + ";.0", 59);
        fault(row("b;", 57) + ";/7", 59);
        fault(row("b;", 55) + ";+999", -1);
        fault(row("b;", 57) + ";+x", 59);
        fault(row("b;", 55) + "bbbbb", 55);
        for (int place = 0; place < 60; place++) {
            StringBuilder text = new StringBuilder(row("/0;", 60));
            text.setCharAt(place, 'x');
            fault(text.toString(), place);
        }
    }

    /** "Returns how many things the cast has", from one to the thirty that 59 characters can be. */
    private static void promise13HowManyThings() {
        for (int things = 1; things <= 20; things++) {
            MessengerCasts x = new MessengerCasts();
            String text = row("/0;", 3 * things - 1);
            Check.due(13, "perform() of " + things + " things", Check.perform(x, text), things);
        }
        // Twelve messengers, and eighteen of which some stop or are gone on the way.
        MessengerCasts y = Check.after("+9");
        Check.due(13, "perform() of 12 things", Check.perform(y, row("!;", 23)), 12);
        Check.due(13, "count(9)", y.count(9), 12);
        MessengerCasts z = Check.after("+9");
        Check.due(13, "perform() of 24 things", Check.perform(z, row("!;!;!;.9;", 53)), 24);
        Check.due(13, "count(10)", z.count(10), 18);
        MessengerCasts u = new MessengerCasts();
        Check.due(13, "perform() of 30 bottles", Check.perform(u, row("b;", 59)), Check.NOT_POSSIBLE);
        Check.due(14, "stopped(0)", u.stopped(0), 1);
        // Each of thirty would have two characters, and no thing of one can be done so often.
        MessengerCasts v = Check.after("+1");
        Check.due(13, "perform() of 30 messengers", Check.perform(v, row("!;", 59)), Check.NOT_POSSIBLE);
        Check.due(14, "stopped(0)", v.stopped(0), 12);
        Check.due(14, "stopped(1)", v.stopped(1), Check.FULL);
    }

    /** A thing does what its call does. */
    private static void promise13ThingsAreAsTheCalls() {
        Scene[] starts = {Scenes.rich(), Scenes.lost(), Scenes.hauledIn(), Scenes.tenBottles(), Scenes.twelveMessengers(),
            Scene.NEW.cast("/1")};
        String[] things = {"+1", "+51", "+201", "-1", "-51", "-9", "b", "m", "!", "/0", "/1", "/6", ".1", ".77"};
        Scene.Call[] calls = {x -> x.pay(1), x -> x.pay(51), x -> x.pay(201), x -> x.pay(-1), x -> x.pay(-51),
            x -> x.pay(-9), x -> x.clamp(false), x -> x.clamp(true), x -> x.send(), x -> x.setSlope(0),
            x -> x.setSlope(1), x -> x.setSlope(6), x -> x.pass(1), x -> x.pass(77)};
        for (int i = 0; i < starts.length; i++) {
            for (int j = 0; j < things.length; j++) {
                Scene start = starts[i].text(things[j]);
                int answer = start.and(calls[j]).answer();
                boolean isDone = answer >= 0 || answer == Check.NONE;
                Scene cast = start.and(x -> x.perform());
                String name = "perform() of " + things[j] + " in scene " + i;
                Check.due(13, name, cast.answer(), isDone ? 1 : Check.NOT_POSSIBLE);
                Look.same(13, "behind " + name, cast.told(), start.and(calls[j]).told(), "count(17)", "stopped(0)",
                    "stopped(1)");
                if (!isDone) {
                    Check.due(14, "stopped(0) behind " + name, cast.play().stopped(0), 0);
                    Check.due(14, "stopped(1) behind " + name, cast.play().stopped(1), answer);
                }
            }
        }
    }

    /** "What would return NONE does not stop it", first, last and alone; the cast is an act all the same. */
    private static void promise13NoneDoesNotStop() {
        String[] texts = {"/0", "/0;/0;/0", "/0;+5", "+5;/0", "+5;/0;b", "/3;/3;+5;/3"};
        int[] things = {1, 3, 2, 2, 3, 4};
        for (int i = 0; i < texts.length; i++) {
            MessengerCasts x = new MessengerCasts();
            Check.due(13, "perform() of " + texts[i], Check.perform(x, texts[i]), things[i]);
            Check.due(13, "count(17)", x.count(17), 1);
            Check.due(13, "count(1)", x.count(1), texts[i].indexOf('+') < 0 ? 0 : 5);
            Check.due(14, "stopped(0)", x.stopped(0), Check.NONE);
            Check.due(15, "undo()", x.undo(), 0);
            Check.due(15, "count(1)", x.count(1), 0);
            Check.due(15, "count(2)", x.count(2), 0);
        }
    }

    /** "All of it, or nothing. This is one act." */
    private static void promise13AllOrNothing() {
        MessengerCasts x = Check.after("m;+40;b;+10;!");
        Check.due(13, "count(17)", x.count(17), 1);
        Check.due(13, "perform() of five", Check.perform(x, "+5;m;!;.3;/2"), 5);
        Check.due(13, "count(17)", x.count(17), 2);
        int[] done = {3, 55, 2, 2, 0, 3, 2, 1, 0, 0, 2, 0, 2, 0, 0, 20, 200, 2, 12};
        for (int i = 0; i < done.length; i++) {
            Check.due(13, "count(" + i + ")", x.count(i), done[i]);
        }
        Check.due(13, "perform() of five and a stop", Check.perform(x, "+5;m;!;.3;/3;-61"), Check.NOT_POSSIBLE);
        for (int i = 0; i < done.length - 1; i++) {
            Check.due(13, "count(" + i + ") as before", x.count(i), done[i]);
        }
        Check.due(15, "undo() of the cast before", x.undo(), 1);
        int[] undone = {0, 50, 0, 0, 0, 2, 2, 0, 0, 1, 1, 0, 0, 0, 0, 20, 200, 1, 16};
        for (int i = 0; i < undone.length; i++) {
            Check.due(13, "count(" + i + ") before the cast", x.count(i), undone[i]);
        }
    }

    /** "The text, which stays": behind a cast that is done, one that is stopped, one with a fault. */
    private static void promise13TheTextStays() {
        MessengerCasts x = new MessengerCasts();
        Check.due(13, "perform() of +400", Check.perform(x, "+400"), 1);
        Check.due(13, "perform() again", x.perform(), 1);
        Check.due(13, "perform() once more", x.perform(), Check.NOT_POSSIBLE);
        Check.due(13, "count(18)", x.count(18), 4);
        x.undo();
        x.undo();
        Check.due(13, "perform() behind undo()", x.perform(), 1);
        Check.due(13, "count(1)", x.count(1), 400);
        x.type(';');
        Check.due(13, "perform() with a fault", x.perform(), -1105);
        Check.due(13, "count(18)", x.count(18), 5);
        x.type('b');
        Check.due(13, "perform() of what was typed on", x.perform(), 2);
        Check.due(13, "count(1)", x.count(1), 800);
        Check.due(13, "count(5)", x.count(5), 1);
    }

    private static void promise14WhatNoughtOr1() {
        for (MessengerCasts x : new MessengerCasts[] {new MessengerCasts(), Scenes.rich().play()}) {
            for (int what : new int[] {-1, 2, MIN, MAX, 3, 1 << 16}) {
                Check.due(14, "stopped(" + what + ")", x.stopped(what), Check.BAD_VALUE);
            }
        }
        Check.due(14, "stopped(0)", Scenes.rich().play().stopped(0), 3);
        Check.due(14, "stopped(1)", Scenes.rich().play().stopped(1), Check.NOT_POSSIBLE);
    }

    /** "NONE if nothing was stopped yet": casts that are done, faults and errors of other calls are no stops. */
    private static void promise14NoneYet() {
        MessengerCasts x = new MessengerCasts();
        Check.due(14, "stopped(0) at first", x.stopped(0), Check.NONE);
        Check.due(14, "stopped(1) at first", x.stopped(1), Check.NONE);
        x.perform();
        Check.perform(x, "b;");
        Check.perform(x, "-9;x");
        Check.perform(x, "+9;/0");
        x.pay(-10);
        x.send();
        x.clamp(true);
        x.clamp(true);
        x.setSlope(0);
        Check.due(14, "stopped(0)", x.stopped(0), Check.NONE);
        Check.due(14, "stopped(1)", x.stopped(1), Check.NONE);
        Check.perform(x, "-10");
        Check.due(14, "stopped(0)", x.stopped(0), 0);
        Check.due(14, "stopped(1)", x.stopped(1), Check.NOT_POSSIBLE);
    }

    /** "Its number in the cast, from 0": the first and the last of many. */
    private static void promise14Numbers() {
        for (int number = 0; number < 19; number++) {
            MessengerCasts x = new MessengerCasts();
            String text = row("/0;", 3 * number) + "!" + row(";/0", 54 - 3 * number);
            Check.due(13, "perform() of \"" + text + "\"", Check.perform(x, text), Check.NOT_POSSIBLE);
            Check.due(14, "stopped(0)", x.stopped(0), number);
            Check.due(14, "stopped(1)", x.stopped(1), Check.NOT_POSSIBLE);
        }
        // One that is done counts, one that answers NONE, too; of two stops the first is told.
        MessengerCasts y = Check.after("+999");
        Check.due(13, "perform()", Check.perform(y, "/0;/1;/1;b;+1;-1000"), -1100 - 18);
        Check.due(13, "perform()", Check.perform(y, "/0;/1;/1;b;+1;b"), Check.NOT_POSSIBLE);
        Check.due(14, "stopped(0)", y.stopped(0), 4);
        Check.due(14, "stopped(1)", y.stopped(1), Check.FULL);
    }

    /** "The latest stop": a later one takes its place, nothing else does. */
    private static void promise14TheLatest() {
        MessengerCasts x = new MessengerCasts();
        Check.perform(x, "+1;+1;-3");
        Check.due(14, "stopped(0)", x.stopped(0), 2);
        Check.due(14, "stopped(1)", x.stopped(1), Check.NOT_POSSIBLE);
        Check.perform(x, "+999;+1");
        Check.due(14, "stopped(0), a later one", x.stopped(0), 1);
        Check.due(14, "stopped(1), a later one", x.stopped(1), Check.FULL);
        x.keep();
        Check.perform(x, "+9;m;+9;!");
        Check.due(14, "stopped(0) behind one that is done", x.stopped(0), 1);
        Check.perform(x, "+9;");
        Check.due(14, "stopped(0) behind a fault", x.stopped(0), 1);
        x.undo();
        Check.due(14, "stopped(0) behind undo()", x.stopped(0), 1);
        x.restore();
        Check.due(14, "stopped(0) behind restore()", x.stopped(0), 1);
        x.clearText();
        Check.due(14, "stopped(1) behind clearText()", x.stopped(1), Check.FULL);
        Check.perform(x, "!");
        Check.due(14, "stopped(0), the latest", x.stopped(0), 0);
        Check.due(14, "stopped(1), the latest", x.stopped(1), Check.NOT_POSSIBLE);
    }
}
