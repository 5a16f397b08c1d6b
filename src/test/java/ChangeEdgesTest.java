/** Boundaries of promises 14 to 17: each one at its place, just within it and just beyond it. */
public final class ChangeEdgesTest {
    private static final Check check = new Check();
    private static final int FAR = -1000000000;
    private static final int LOW = Integer.MIN_VALUE;
    private static final int HIGH = Integer.MAX_VALUE;

    public static void main(String[] args) {
        promise14HousesOnce();
        promise14Digits();
        promise14House();
        promise14TapeIsEmptyThen();
        promise14OneAndNine();
        promise14LoavesOfNow();
        promise14FirstAndLastPlace();
        promise14NoneBurnt();
        promise15BothMoreGain();
        promise15NinthsAlike();
        promise15AtTheFront();
        promise15SevenAtMost();
        promise15What();
        promise15First();
        promise16NoMonday();
        promise16FewHouses();
        promise16What();
        promise16ChangesNothing();
        promise16FirstTwoFromTheFront();
        promise16AllOrdersOfFive();
        promise16WarmOven();
        promise17SevenAtMost();
        promise17What();
        promise17OfSeveralTheFirst();
        check.finish("ChangeEdgesTest");
    }

    /** HOUSES as told by size, need and minutes, with DOUGH enough; power 1, so that wood is what heat lacks. */
    private static DoughDebts baking(int price, int[]... houses) {
        DoughDebts x = new DoughDebts();
        x.set(0, 1);
        x.set(2, price);
        for (int h = 0; h < houses.length; h++) {
            Check.house(x, houses[h][0], houses[h][1], houses[h][2], "a");
            x.give(h, 9000);
        }
        return x;
    }

    private static int[] house(int size, int need, int minutes) {
        return new int[] {size, need, minutes};
    }

    private static DoughDebts alike(int count) {
        DoughDebts x = new DoughDebts();
        for (int h = 0; h < count; h++) {
            Check.house(x, 90, 10, 99, "a");
            x.give(h, 900);
        }
        return x;
    }

    /** Promise 14: "digits, each HOUSE's once": one less, one more, one twice. */
    private static void promise14HousesOnce() {
        DoughDebts x = alike(3);
        for (String order : new String[] {"", "0", "01", "0120", "0123", "001", "010", "100", "111", "012 ", " 012",
            "012012", "01201201201201201201201201201201"}) {
            check.due("p14 order '" + order + "'", Check.gain(x, order, 0), FAR);
        }
        // One piece each; 10 to who stands ahead but by the first.
        for (String order : new String[] {"012", "021", "102", "120", "201", "210"}) {
            int[] byPlace = {10 - 1, -1, -10 - 1};
            for (int place = 0; place < 3; place++) {
                int h = order.charAt(place) - '0';
                check.due("p14 gain of " + h + " in " + order, Check.gain(x, order, h), byPlace[place]);
            }
        }
    }

    /** Promise 14: "digits": those of HOUSES alone, of all 256 bytes. */
    private static void promise14Digits() {
        for (int sign = 0; sign < 256; sign++) {
            DoughDebts x = alike(2);
            check.due("p14 byte " + sign, Check.gain(x, "0" + (char) sign, 0), sign == '1' ? 9 : FAR);
        }
    }

    /** Promise 14: "GAIN of a HOUSE .. NONE - 999999999 if it is none". */
    private static void promise14House() {
        DoughDebts x = alike(2);
        for (int house : new int[] {LOW, -1, 2, 3, '0', HIGH}) {
            check.due("p14 of " + house, Check.gain(x, "01", house), FAR);
        }
        check.due("p14 of the first", Check.gain(x, "01", 0), 9);
        check.due("p14 of the last", Check.gain(x, "01", 1), -11);
        check.due("p14 of no houses", new DoughDebts().gain(0), FAR);
        check.due("p14 of no houses -1", new DoughDebts().gain(-1), FAR);
    }

    /** Promise 14: "the TAPE (empty then)", whatever is answered. */
    private static void promise14TapeIsEmptyThen() {
        DoughDebts x = alike(2);
        Check.gain(x, "01", 0);
        check.due("p14 tape behind a gain", Check.tapeLength(x), 0);
        Check.gain(x, "01", 2);
        check.due("p14 tape behind no house", Check.tapeLength(x), 0);
        Check.gain(x, "00000", 0);
        check.due("p14 tape behind no order", Check.tapeLength(x), 0);
        check.due("p14 no order is left", x.gain(0), FAR);
    }

    /** Promise 14: one HOUSE, and as many as there may be. */
    private static void promise14OneAndNine() {
        DoughDebts one = alike(1);
        check.due("p14 one", Check.gain(one, "0", 0), -1);
        check.due("p14 two of one", Check.gain(one, "00", 0), FAR);
        DoughDebts x = alike(9);
        check.due("p14 first of nine", Check.gain(x, "876543210", 8), 9);
        check.due("p14 middle of nine", Check.gain(x, "876543210", 4), -1);
        check.due("p14 last of nine", Check.gain(x, "876543210", 0), -11);
        check.due("p14 eight of nine", Check.gain(x, "87654321", 8), FAR);
        check.due("p14 ten of nine", Check.gain(x, "9876543210", 8), FAR);
        check.due("p14 a 9 of nine", Check.gain(x, "976543210", 7), FAR);
    }

    /** Terms 3: "loaves as they would be now": by DOUGH if that is less than SIZE; without a loaf no wood. */
    private static void promise14LoavesOfNow() {
        int[][] told = {{0, 0, 0}, {1, 0, -1}, {8, 0, -1}, {9, 1, -2}, {89, 9, -10}, {90, 10, -11}, {91, 10, -11}};
        for (int[] t : told) {
            DoughDebts x = new DoughDebts();
            Check.house(x, 90, 10, 99, "a");
            Check.house(x, 90, 10, 99, "b");
            x.give(0, 90);
            x.give(1, t[0]);
            check.due("p14 ahead of dough " + t[0], Check.gain(x, "01", 0), t[1] - 1);
            check.due("p14 with dough " + t[0], Check.gain(x, "01", 1), t[2]);
        }
    }

    /** Terms 3: the first owes none and the last is owed none; PRICE 0 and 99. */
    private static void promise14FirstAndLastPlace() {
        DoughDebts x = baking(0, house(999, 999, 1), house(999, 999, 1));
        check.due("p14 first, wood for nothing", Check.gain(x, "01", 0), 111);
        check.due("p14 last, wood for nothing", Check.gain(x, "01", 1), -111);
        x.set(2, 99);
        check.due("p14 first, wood at most", Check.gain(x, "01", 0), 111 - 99 * 999);
        check.due("p14 last, one piece", Check.gain(x, "01", 1), -111 - 99);
        x.set(2, 1);
        check.due("p14 first, wood for 1", Check.gain(x, "01", 0), 111 - 999);
    }

    /** Terms 3: "none BURNT", and nothing is drawn or baked by asking. */
    private static void promise14NoneBurnt() {
        DoughDebts x = alike(2);
        x.set(3, 100);
        check.due("p14 gain", Check.gain(x, "01", 0), 9);
        check.due("p14 gain", Check.gain(x, "01", 1), -11);
        check.due("p14 state", x.look(2), 0);
        check.due("p14 dough", x.of(0, 3), 900);
        check.due("p14 wood", x.of(0, 5), 0);
    }

    private static void changes(String name, DoughDebts x, int changes, int orders) {
        check.due(name + ": round", x.round(0), changes);
        check.due(name + ": no circle", x.round(1), 0);
        check.due(name + ": orders", x.orders(0), orders);
    }

    /**
     * Terms 3: "both of whom would have more GAIN". House 0 needs 5 and leaves none (or 3), house 1 needs 50
     * and leaves 40. By changing, house 0 spares 5 pieces and gives up both ninths; house 1 gets both ninths
     * and pays no more (or for 3 pieces more).
     */
    private static void promise15BothMoreGain() {
        for (int ninths = 0; ninths <= 7; ninths++) {
            int size = ninths == 0 ? 8 : 9 * ninths;
            DoughDebts x = baking(1, house(size, 5, 99), house(8, 50, 10));
            boolean change = ninths > 0 && ninths < 5;
            changes("p15 ninths " + ninths, x, change ? 1 : 0, change ? 1 : 2);
            check.due("p15 first", x.orders(10), change ? 1 : 0);
            check.due("p15 second", x.orders(11), change ? 0 : 1);
            DoughDebts y = baking(1, house(8, 5, 2), house(size, 50, 10));
            change = ninths > 3 && ninths < 5;
            changes("p15 ninths for 3 pieces " + ninths, y, change ? 1 : 0, change ? 1 : 2);
        }
        int[][] byPrice = {{0, 1, 0}, {2, 9, 1}, {2, 10, 0}, {2, 11, 0}, {22, 109, 1}, {22, 110, 0}};
        for (int[] t : byPrice) {
            DoughDebts x = baking(t[0], house(9 * t[1], 5, 99), house(8, 50, 10));
            changes("p15 price " + t[0] + " ninths " + t[1], x, t[2], 2 - t[2]);
        }
    }

    /**
     * Terms 3: with wood for nothing two change, if the ninth of the one ahead is more than the ninth of who
     * comes behind both, and that more than the other's: alike is not more.
     */
    private static void promise15NinthsAlike() {
        int[][] told = {{3, 1, 2, 1}, {2, 1, 2, 0}, {3, 2, 2, 0}, {3, 2, 3, 0}, {2, 2, 2, 0}, {1, 2, 3, 0},
            {3, 0, 1, 1}, {3, 0, 0, 0}, {2, 1, 1, 0}};
        for (int[] t : told) {
            DoughDebts x = baking(0, house(0, 1, 1), house(9 * t[0], 1, 1), house(9 * t[1], 1, 1),
                    house(9 * t[2], 1, 1));
            check.due("p15 ninths " + t[0] + t[1] + t[2], x.round(0), t[3]);
            // At the front they never change: who is ahead would owe its own ninth.
            DoughDebts y = baking(0, house(9 * t[0], 1, 1), house(9 * t[1], 1, 1), house(9 * t[2], 1, 1));
            check.due("p15 at the front " + t[0] + t[1] + t[2], y.round(0), 0);
            check.due("p15 all settled", y.orders(0), 6);
        }
    }

    /**
     * Terms 3: two at the front WOULD CHANGE with a third behind them, which bakes nothing here: not settled are
     * 0 1 2 and 2 0 1 alone, in both of which house 0 spares 5 pieces for its 2 ninths.
     */
    private static void promise15AtTheFront() {
        DoughDebts x = baking(1, house(18, 5, 99), house(8, 50, 10), house(0, 1, 1));
        check.due("p15 orders", x.orders(0), 4);
        int[] first = {0, 2, 1};
        for (int i = 0; i < 3; i++) check.due("p15 place " + i, x.orders(10 + i), first[i]);
        check.due("p15 round", x.round(0), 1);
    }

    /** Promise 15 and Terms 3: "ORDERS (7 HOUSES at most)". */
    private static void promise15SevenAtMost() {
        int[] orders = {1, 1, 2, 6, 24, 120, 720, 5040};
        for (int count = 0; count <= 9; count++) {
            DoughDebts x = alike(count);
            check.due("p15 orders of " + count, x.orders(0), count <= 7 ? orders[count] : -1);
            check.due("p15 first of " + count, x.orders(10), count >= 1 && count <= 7 ? 0 : -1);
            check.due("p15 last of " + count, x.orders(9 + count), count >= 1 && count <= 7 ? count - 1 : -1);
        }
    }

    /** Promise 15: "10 + i the HOUSE at place i .. NONE .. another what". */
    private static void promise15What() {
        for (int count : new int[] {0, 1, 3, 7}) {
            DoughDebts x = alike(count);
            for (int what : new int[] {LOW, LOW + 9, LOW + 10, -1, 1, 2, 9, 10 + count, 11 + count, 19, 100, HIGH}) {
                check.due("p15 orders " + what + " of " + count, x.orders(what), -1);
            }
            for (int i = 0; i < count; i++) check.due("p15 place " + i, x.orders(10 + i), i);
        }
    }

    /** Terms 3: "the first of them (by HOUSES at the places)". */
    private static void promise15First() {
        // House 0 ahead of house 1 would change, as told above.
        DoughDebts x = baking(1, house(18, 5, 99), house(8, 50, 10));
        check.due("p15 first", x.orders(10), 1);
        check.due("p15 then", x.orders(11), 0);
        DoughDebts y = baking(0, house(9, 1, 1), house(27, 1, 1), house(9, 1, 1), house(18, 1, 1));
        // 0 1 2 3 and 2 1 0 3 alone have 3, 1, 2 ninths at the places behind the first.
        check.due("p15 orders", y.orders(0), 22);
        int[] first = {0, 1, 3, 2};
        for (int i = 0; i < 4; i++) check.due("p15 place " + i, y.orders(10 + i), first[i]);
    }

    /** Terms 3: "A ROUND from THE ORDER of now (by THE RULE, no MONDAY)", on whatever DAY. */
    private static void promise16NoMonday() {
        DoughDebts x = baking(1, house(18, 5, 99), house(8, 50, 10));
        check.due("p16 by number", x.round(0), 1);
        Check.text(x, "worth house;");
        check.due("p16 Monday begins with 0", x.order(0), 0);
        check.due("p16 the rule begins with 1", x.round(0), 0);
        x.days(1);
        check.due("p16 Tuesday", x.round(0), 0);
        Check.text(x, "worth 0-house;");
        check.due("p16 Tuesday begins with 0", x.round(0), 1);
        x.days(6);
        check.due("p16 this Monday begins with 1", x.order(0), 1);
        check.due("p16 the rule begins with 0", x.round(0), 1);
    }

    /** Promise 16: without two HOUSES nothing changes; more than seven may go round. */
    private static void promise16FewHouses() {
        for (int count = 0; count <= 9; count++) {
            DoughDebts x = alike(count);
            check.due("p16 changes of " + count, x.round(0), 0);
            check.due("p16 circle of " + count, x.round(1), 0);
        }
        DoughDebts x = baking(0, house(0, 1, 1), house(27, 1, 1), house(0, 1, 1), house(0, 1, 1), house(0, 1, 1),
                house(0, 1, 1), house(0, 1, 1), house(9, 1, 1), house(18, 1, 1));
        // Nothing is above what comes behind but the ninth of house 1, and behind that one come two alike.
        check.due("p16 nine that stand still", x.round(0), 0);
        DoughDebts y = baking(0, house(0, 1, 1), house(0, 1, 1), house(0, 1, 1), house(0, 1, 1), house(0, 1, 1),
                house(0, 1, 1), house(27, 1, 1), house(9, 1, 1), house(18, 1, 1));
        check.due("p16 nine with one change", y.round(0), 1);
    }

    /** Promise 16: "NONE for another what". */
    private static void promise16What() {
        for (int count : new int[] {0, 2, 9}) {
            DoughDebts x = alike(count);
            for (int what : new int[] {LOW, -1, 2, 3, 10, HIGH}) check.due("p16 round " + what, x.round(what), -1);
        }
    }

    /** Promise 16: what is asked changes nothing. */
    private static void promise16ChangesNothing() {
        DoughDebts x = baking(1, house(18, 5, 99), house(8, 50, 10));
        for (int i = 0; i < 2; i++) {
            check.due("p16 gain", Check.gain(x, "10", 1), 2 - 50);
            check.due("p16 round", x.round(0), 1);
            check.due("p16 circle", x.round(1), 0);
            check.due("p16 least", x.least(0), 50);
            Check.gain(x, "10", 1);
            check.due("p16 orders", x.orders(0), 1);
            check.due("p16 order stays", x.order(0), 0);
            check.due("p16 dough stays", x.of(0, 3), 9000);
            check.due("p16 day stays", x.look(1), 0);
        }
    }

    /**
     * Terms 3: "the first two (from the front) that WOULD CHANGE do so, again and again". Ninths 5 2 4 1 3 behind
     * a first HOUSE, by what is told of ninths above: 2 5 4 1 3, then 2 5 1 4 3, then 2 1 5 4 3, and none would.
     * If the last two did so, it were one change alone, to 5 2 1 4 3.
     */
    private static void promise16FirstTwoFromTheFront() {
        DoughDebts x = baking(0, house(0, 1, 1), house(45, 1, 1), house(18, 1, 1), house(36, 1, 1), house(9, 1, 1),
                house(27, 1, 1));
        check.due("p16 changes", x.round(0), 3);
        check.due("p16 no circle", x.round(1), 0);
    }

    /** How many changes there are from the ninths at the places behind the first, by what is told of them above. */
    private static int changesOf(int[] ninths) {
        int changes = 0;
        for (int i = 0; i + 2 < ninths.length; i++) {
            if (ninths[i] > ninths[i + 2] && ninths[i + 2] > ninths[i + 1]) {
                int ahead = ninths[i];
                ninths[i] = ninths[i + 1];
                ninths[i + 1] = ahead;
                changes++;
                i = -1;
            }
        }
        return changes;
    }

    /** Terms 3: from each of the 120 orders of five behind a first HOUSE, told by THE RULE; and how many settle. */
    private static void promise16AllOrdersOfFive() {
        int settled = 0;
        for (int code = 0; code < 3125; code++) {
            int[] ninths = new int[5];
            int seen = 0;
            for (int i = 0, rest = code; i < 5; i++, rest /= 5) {
                ninths[i] = rest % 5 + 1;
                seen |= 1 << ninths[i];
            }
            if (seen != 62) continue;
            DoughDebts x = baking(0, house(0, 1, 1), house(9, 1, 1), house(18, 1, 1), house(27, 1, 1),
                    house(36, 1, 1), house(45, 1, 1));
            StringBuilder rule = new StringBuilder("worth 9 when house=0;");
            for (int i = 0; i < 5; i++) {
                rule.append("worth ").append(5 - i).append(" when house=").append(ninths[i]).append(';');
            }
            check.due("p16 lines", Check.text(x, rule.toString()), 6);
            int changes = changesOf(ninths.clone());
            check.due("p16 changes of " + java.util.Arrays.toString(ninths), x.round(0), changes);
            check.due("p16 no circle of " + java.util.Arrays.toString(ninths), x.round(1), 0);
            settled += changes == 0 ? 1 : 0;
        }
        check.due("p16 some settle, not all", settled > 1 && settled < 120, true);
    }

    /**
     * Terms 3: two behind a third find its heat. House 0 leaves 2 of 3, so house 1 (need 5) spares 3 pieces, no
     * more, behind house 2 (which leaves 40 of 50), and gives up house 2's ninth for it.
     */
    private static void promise16WarmOven() {
        for (int ninth = 0; ninth <= 6; ninth++) {
            int size = ninth == 0 ? 8 : 9 * ninth;
            DoughDebts x = baking(1, house(90, 3, 1), house(8, 5, 99), house(size, 50, 10));
            check.due("p16 ninth " + ninth, x.round(0), ninth < 3 ? 1 : 0);
            DoughDebts y = baking(1, house(90, 3, 1), house(8, 5, 99), house(size, 50, 10));
            y.set(1, 0);
            // Nothing cools: house 1 spares 2 pieces behind house 2, which would pay for them.
            check.due("p16 nothing cools " + ninth, y.round(0), 0);
        }
    }

    /** Promise 17 and Terms 3: "LEAST WOOD (7 HOUSES at most)". */
    private static void promise17SevenAtMost() {
        for (int count = 0; count <= 9; count++) {
            DoughDebts x = alike(count);
            x.set(1, 99);
            check.due("p17 wood of " + count, x.least(0), count <= 7 ? count : -1);
            check.due("p17 first of " + count, x.least(10), count >= 1 && count <= 7 ? 0 : -1);
            check.due("p17 last of " + count, x.least(9 + count), count >= 1 && count <= 7 ? count - 1 : -1);
        }
    }

    /** Promise 17: "10 + i the HOUSE at place i. NONE .. another what". */
    private static void promise17What() {
        for (int count : new int[] {0, 1, 3, 7}) {
            DoughDebts x = alike(count);
            for (int what : new int[] {LOW, LOW + 9, LOW + 10, -1, 1, 2, 9, 10 + count, 11 + count, 19, 100, HIGH}) {
                check.due("p17 least " + what + " of " + count, x.least(what), -1);
            }
            for (int i = 0; i < count; i++) check.due("p17 place " + i, x.least(10 + i), i);
        }
    }

    private static void leastIs(String name, DoughDebts x, int wood, String order) {
        check.due(name + ": wood", x.least(0), wood);
        for (int i = 0; i < order.length(); i++) check.due(name + " at " + i, x.least(10 + i), order.charAt(i) - '0');
    }

    /** Terms 3: "of several the first"; one piece less is less. */
    private static void promise17OfSeveralTheFirst() {
        // 0 1: 5, then 50 from none: 55. 1 0: 50 and none.
        leastIs("p17 other way round", baking(1, house(9, 5, 99), house(9, 50, 10)), 50, "10");
        // 0 1: 5 and 1 more from 5 to 6. 1 0: 6 and none: as much.
        DoughDebts y = baking(1, house(9, 5, 1), house(9, 6, 1));
        y.set(1, 0);
        leastIs("p17 as much", y, 6, "01");
        // 0 1: 5, less 1, then 2: 7. 1 0: 6, less 1, then none: 6.
        leastIs("p17 one piece less", baking(1, house(9, 5, 1), house(9, 6, 1)), 6, "10");
        // Nothing to bake for 0: it takes no wood and no heat, so it stands first.
        leastIs("p17 no loaf", baking(1, house(0, 999, 99), house(9, 5, 99), house(9, 50, 10)), 50, "021");
        // PRICE doesn't matter to how much is burnt.
        leastIs("p17 price 0", baking(0, house(9, 5, 99), house(9, 50, 10)), 50, "10");
        leastIs("p17 most wood", baking(1, house(9, 999, 99)), 999, "0");
    }
}
