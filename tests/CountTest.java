/** Promise 26: count; the accounts add up. */
public final class CountTest {
    public static void main(String[] args) {
        errors();
        allCounts();
        bottles();
        accounts();
        constants();
        Check.finish("CountTest");
    }

    private static void errors() {
        MessengerCasts x = new MessengerCasts();
        Check.due(26, "count(-1)", x.count(-1), Check.BAD_VALUE);
        Check.due(26, "count(19)", x.count(19), Check.BAD_VALUE);
        Check.due(26, "count(MAX)", x.count(Integer.MAX_VALUE), Check.BAD_VALUE);
        Check.due(26, "count(MIN)", x.count(Integer.MIN_VALUE), Check.BAD_VALUE);
    }

    private static void allCounts() {
        // Every number is another one, as far as can be.
        MessengerCasts x = Check.after("+300;m;+60;!;.2;!;!;.3;!;!;!;!;.11;/3");
        x.weight(true);
        x.set(0, 31);
        x.set(1, 77);
        x.pay(-9);
        int[] counts = {16, 351, 3, 5, 1, 1, 1, 1, 0, 5, 7, 1, 3, 0, 0, 31, 77, 4, 37};
        for (int i = 0; i < counts.length; i++) {
            Check.due(26, "count(" + i + ")", x.count(i), counts[i]);
        }
        x.pay(-41);
        Check.due(26, "count(14)", x.count(14), 0);
        x.pay(-10);
        Check.due(26, "count(14)", x.count(14), 4);
        Check.due(26, "count(9)", x.count(9), 1);
        Check.due(26, "count(6), at the water", x.count(6), 0);
        Check.due(26, "count(7)", x.count(7), 1);
        x.pass(99);
        Check.due(26, "count(0)", x.count(0), 115);
    }

    private static void bottles() {
        MessengerCasts x = Check.after("b;+30;b;+30;b;+30;b;-30");
        Check.due(26, "count(5)", x.count(5), 4);
        Check.due(26, "count(6), one at and one above the water", x.count(6), 2);
        Check.due(26, "count(7)", x.count(7), 0);
        x.set(1, 9);
        x.pay(-10);
        Check.due(26, "count(7)", x.count(7), 1);
        x.pay(-50);
        Check.due(26, "count(7), out of the water too", x.count(7), 1);
        Check.due(26, "count(6)", x.count(6), 0);
        MessengerCasts y = Check.after("b;+5;b;+194;/6;!");
        y.set(1, 10);
        y.pay(20);
        y.pay(-11);
        // 219 metres are 109 deep, 203 are 101.
        Check.due(26, "count(8)", y.count(8), 2);
        y.set(0, 103);
        Check.due(26, "count(8)", y.count(8), 1);
        y.set(0, 119);
        Check.due(26, "count(8)", y.count(8), 0);
    }

    private static void accounts() {
        MessengerCasts x = Check.after("m;+90;b;+30;m;+30");
        for (int i = 0; i < 40; i++) {
            x.send();
            x.pass(1 + i % 7);
            if (i % 9 == 4) {
                x.pay(-(1 + i % 5));
            }
            if (i % 11 == 5) {
                x.setSlope(i % 7);
            }
            int begun = x.count(10) + x.count(11);
            int ended = x.count(9) + x.count(12) + x.count(13) + x.count(14);
            Check.due(26, "accounts at " + i, begun, ended);
        }
    }

    private static void constants() {
        Check.due(1, "UNKNOWN", MessengerCasts.UNKNOWN, Check.UNKNOWN);
        Check.due(1, "BAD_VALUE", MessengerCasts.BAD_VALUE, Check.BAD_VALUE);
        Check.due(1, "FULL", MessengerCasts.FULL, Check.FULL);
        Check.due(1, "NOT_POSSIBLE", MessengerCasts.NOT_POSSIBLE, Check.NOT_POSSIBLE);
        Check.due(1, "NONE", MessengerCasts.NONE, Check.NONE);
    }
}
