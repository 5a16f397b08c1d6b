/** Promises 14 to 17: gain, orders, round, least. */
public final class ChangesTest {
    private static final Check check = new Check();
    private static final int FAR = -1000000000;

    public static void main(String[] args) {
        gain();
        gainOfWrongOrders();
        changing();
        changingFromTheRule();
        longRound();
        least();
        leastOfAlike();
        crowd();
        check.finish("ChangesTest");
    }

    private static DoughDebts baked(int power, int cool, int price, int[]... houses) {
        DoughDebts x = new DoughDebts();
        x.set(0, power);
        x.set(1, cool);
        x.set(2, price);
        for (int i = 0; i < houses.length; i++) {
            Check.house(x, houses[i][0], houses[i][1], houses[i][2], "a");
            x.give(i, 50000);
        }
        return x;
    }

    private static void gains(DoughDebts x, String order, int... want) {
        for (int h = 0; h < want.length; h++) {
            check.due("gain " + h + " in " + order, Check.gain(x, order, h), want[h]);
            check.due("tape behind", Check.tapeLength(x), 0);
        }
    }

    private static void gain() {
        DoughDebts x = baked(10, 1, 3, new int[] {90, 50, 10}, new int[] {45, 30, 5}, new int[] {20, 60, 2});
        // Wood 5, 0, 3 (from 35 to 65).
        gains(x, "012", 5 - 15, 2 - 5, -2 - 9);
        // Wood 6, 0 (from 58), 0 (from 48).
        gains(x, "201", -10 + 5, -5, 10 - 18);
        // Wood 3, 4 (from 25), 0 from 63 - 2.
        gains(x, "120", -10, 2 - 9, -2 + 10 - 12);
        x.set(2, 0);
        gains(x, "120", -10, 2, 8);
        // Loaves as they would be now: house 0 has no dough in a new one.
        DoughDebts y = new DoughDebts();
        Check.house(y, 90, 50, 10, "a");
        Check.house(y, 90, 30, 5, "b");
        y.give(1, 27);
        gains(y, "01", 3, -3 - 3);
        gains(y, "10", 0, -3);
    }

    private static void gainOfWrongOrders() {
        DoughDebts x = baked(10, 1, 1, new int[] {90, 50, 10}, new int[] {45, 30, 5}, new int[] {20, 60, 2});
        for (String order : new String[] {"", "0", "01", "0123", "011", "013", "01a", "01/", "01 ", "222"}) {
            gains(x, order, FAR, FAR, FAR);
        }
        check.due("gain of 3", Check.gain(x, "012", 3), FAR);
        check.due("tape behind", Check.tapeLength(x), 0);
        check.due("gain of -1", Check.gain(x, "012", -1), FAR);
        check.due("gain of lowest", Check.gain(x, "012", Integer.MIN_VALUE), FAR);
    }

    private static void settled(DoughDebts x, int count, String first) {
        check.due("orders", x.orders(0), count);
        for (int i = 0; i < first.length(); i++) check.due("orders " + i, x.orders(10 + i), first.charAt(i) - '0');
        check.due("orders beyond", x.orders(10 + first.length()), -1);
        for (int what : new int[] {-1, 1, 9, 100, Integer.MIN_VALUE, Integer.MAX_VALUE}) {
            check.due("orders other what", x.orders(what), -1);
        }
    }

    private static void round(DoughDebts x, int changes, int circle) {
        check.due("round changes", x.round(0), changes);
        check.due("round circle", x.round(1), circle);
        check.due("round 2", x.round(2), -1);
        check.due("round -1", x.round(-1), -1);
    }

    /**
     * Wood costs nothing, ninths are 3, 2, 1: two change, if the one ahead has more than who comes behind
     * both, and that one more than the other one (nobody counts as 0). At the front: ahead x, then y, then
     * z; x would get z's less its own for y's, y would get x's for z's less its own.
     */
    private static void changing() {
        DoughDebts x = baked(10, 1, 0, new int[] {27, 1, 1}, new int[] {18, 1, 1}, new int[] {9, 1, 1});
        // No one at the front gives up a ninth for less; behind, none at the end gives one up for nothing.
        settled(x, 6, "012");
        round(x, 0, 0);
        DoughDebts y = baked(10, 1, 0, new int[] {9, 1, 1}, new int[] {90, 1, 1}, new int[] {9, 1, 1},
                new int[] {45, 1, 1});
        // In 0 1 2 3 the second (10) and third (1) change before the fourth (5): 5 > 1 for the one, for the
        // other 10 - 1 > 5 - 1.
        round(y, 1, 0);
        // Not settled: those with 10, 1, 5 in places 1 to 3, behind one of the two with 1.
        settled(y, 22, "0132");
        DoughDebts one = baked(10, 1, 1, new int[] {9, 1, 1});
        settled(one, 1, "0");
        round(one, 0, 0);
    }

    /** A round begins with the rule's order, not with a Monday's. */
    private static void changingFromTheRule() {
        DoughDebts x = baked(10, 1, 0, new int[] {9, 1, 1}, new int[] {90, 1, 1}, new int[] {9, 1, 1},
                new int[] {45, 1, 1});
        Check.text(x, "worth 3 when house=2; worth 2 when house=1; worth 1 when house=0;");
        // It is Monday: 0 would begin. By the rule 2 1 0 3: one change to 2 0 1 3.
        check.due("Monday", x.order(0), 0);
        round(x, 1, 0);
        Check.text(x, "worth 3 when house=1; worth 2 when house=2; worth 1 when house=0;");
        round(x, 0, 0);
    }

    private static void longRound() {
        DoughDebts x = baked(3, 3, 5, new int[] {78, 5, 1}, new int[] {83, 1, 1}, new int[] {54, 13, 1},
                new int[] {85, 5, 3}, new int[] {51, 13, 2}, new int[] {57, 19, 2}, new int[] {24, 19, 3},
                new int[] {40, 17, 1}, new int[] {21, 20, 1});
        round(x, 24, 0);
        check.due("orders of nine", x.orders(0), -1);
    }

    private static void least() {
        DoughDebts x = baked(10, 0, 1, new int[] {9, 30, 1}, new int[] {9, 50, 1}, new int[] {9, 10, 1});
        // Nothing cools: 5 pieces heat for all, whoever begins; so the first of all orders.
        leastIs(x, 5, "012");
        x.set(1, 10);
        // 0 1 2: 3, then 3 from 20, none from 40: 6. 1 0 2: 5, none from 40, none from 30. First with 5.
        leastIs(x, 5, "102");
        DoughDebts y = baked(10, 1, 1, new int[] {9, 10, 50}, new int[] {9, 100, 50}, new int[] {9, 50, 50});
        // 1, then cold: 10 and none: 11 by 0 1 2; 1 2 0 takes 10 and none from 50, 1 from 0: 11; 1 0 2: 10, 0, 5.
        leastIs(y, 11, "012");
        DoughDebts none = new DoughDebts();
        leastIs(none, 0, "");
    }

    private static void leastIs(DoughDebts x, int wood, String order) {
        check.due("least", x.least(0), wood);
        for (int i = 0; i < order.length(); i++) check.due("least " + i, x.least(10 + i), order.charAt(i) - '0');
        check.due("least beyond", x.least(10 + order.length()), -1);
        for (int what : new int[] {-1, 1, 9, 100, Integer.MIN_VALUE, Integer.MAX_VALUE}) {
            check.due("least other what", x.least(what), -1);
        }
    }

    /** A house without a loaf takes no wood, and the heat stays. */
    private static void leastOfAlike() {
        DoughDebts x = new DoughDebts();
        Check.house(x, 9, 999, 99, "a");
        Check.house(x, 9, 20, 1, "b");
        Check.house(x, 0, 500, 99, "c");
        x.give(1, 9);
        x.give(2, 9);
        leastIs(x, 2, "012");
    }

    private static void crowd() {
        DoughDebts x = new DoughDebts();
        for (int h = 0; h < 7; h++) {
            Check.house(x, 9, 10, 1, "a");
            x.give(h, 100);
        }
        x.set(1, 99);
        check.due("seven are alike", x.orders(0), 5040);
        check.due("seven take as much", x.least(0), 7);
        check.due("first of seven", x.least(16), 6);
        Check.house(x, 9, 10, 1, "a");
        check.due("orders of eight", x.orders(0), -1);
        check.due("orders 10 of eight", x.orders(10), -1);
        check.due("least of eight", x.least(0), -1);
        check.due("least 10 of eight", x.least(10), -1);
        check.due("round of eight", x.round(0), 0);
    }
}
