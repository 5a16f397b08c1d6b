/** Boundaries of promises 11, 13 and 27 and of a DAY: each one at its place, just within it and just beyond it. */
public final class DayEdgesTest {
    private static final Check check = new Check();
    private static final int LOW = Integer.MIN_VALUE;
    private static final int HIGH = Integer.MAX_VALUE;

    public static void main(String[] args) {
        promise11HowMany();
        promise11NothingIsDone();
        promise11UpTo9999();
        promise11FourHundredAtOnce();
        promise11NoHouses();
        promise11NoDrawWithoutSleep();
        promise11BelowSleep();
        promise11DrawWithoutSign();
        promise11StateWraps();
        promise11BurntByPlace();
        promise11LostWhole();
        promise11BurntNothing();
        promise11LoafBySizeOrDough();
        promise11NoLoafNoWood();
        promise11PiecesOfWood();
        promise11WarmOven();
        promise11HeatFalls();
        promise11ColdEachDay();
        promise11Ninth();
        promise11Sour();
        promise11FirstAndMondays();
        promise11OrderIsOfItsOwnDay();
        promise13NoDayYet();
        promise13What();
        promise13LatestDay();
        promise27EightAreKept();
        promise27NothingLeft();
        promise27AllOfIt();
        promise27WhatForgets();
        promise27WhatDoesNot();
        promise27RefusedForgetsNothing();
        check.finish("DayEdgesTest");
    }

    /** The next STATE, in the document's own words. */
    private static int next(int state) {
        return 1664525 * state + 1013904223;
    }

    /** What a DRAW of m is, if STATE has just become this. */
    private static int drawn(int state, int m) {
        return (int) (((state & 0xFFFFFFFFL) >> 8) % m);
    }

    /** A STATE (from 0 on) whose first DRAW of 100 is so. */
    private static int stateBefore(int draw) {
        int state = 0;
        while (drawn(next(state), 100) != draw) state++;
        return state;
    }

    /** A STATE whose second DRAW, of m, is so. */
    private static int stateBeforeSecond(int draw, int m) {
        int state = 0;
        while (drawn(next(next(state)), m) != draw) state++;
        return state;
    }

    private static DoughDebts withHouses(int count, int size, int dough) {
        DoughDebts x = new DoughDebts();
        for (int h = 0; h < count; h++) {
            Check.house(x, size, 10, 1, "a");
            x.give(h, dough);
        }
        return x;
    }

    private static void ofAll(String name, DoughDebts x, int what, int... want) {
        for (int h = 0; h < want.length; h++) check.due(name + " of " + h, x.of(h, what), want[h]);
    }

    /** Promise 11: "DAYS go by (1 .. 400) .. NONE .. if one can't be". */
    private static void promise11HowMany() {
        for (int n : new int[] {LOW, -1, 0, 1, 2, 399, 400, 401, 402, HIGH}) {
            DoughDebts x = withHouses(1, 1, 9);
            boolean good = n >= 1 && n <= 400;
            check.due("p11 days " + n, x.days(n), good ? 0 : -1);
            check.due("p11 day", x.look(1), good ? n : 0);
        }
    }

    /** Promise 11: "NONE, and nothing is done". */
    private static void promise11NothingIsDone() {
        DoughDebts x = withHouses(2, 9, 99);
        x.set(3, 100);
        x.days(2);
        int state = x.look(2);
        int dough = x.of(0, 3);
        int stood = x.book(0);
        for (int n : new int[] {0, -1, 401, LOW, HIGH}) check.due("p11 days " + n, x.days(n), -1);
        check.due("p11 day stays", x.look(1), 2);
        check.due("p11 state stays", x.look(2), state);
        check.due("p11 dough stays", x.of(0, 3), dough);
        check.due("p11 book stays", x.book(0), stood);
        check.due("p11 still to be undone", x.look(5), 2);
    }

    /** Promise 11: "NONE .. beyond DAY 9999": 9999 itself is come to, no day more goes by. */
    private static void promise11UpTo9999() {
        DoughDebts x = withHouses(1, 0, 0);
        for (int i = 0; i < 24; i++) x.days(400);
        check.due("p11 from 9600 by 400", x.days(400), -1);
        check.due("p11 day 9600", x.look(1), 9600);
        check.due("p11 sour", x.of(0, 8), 9600);
        check.due("p11 from 9600 by 398", x.days(398), 0);
        check.due("p11 from 9998 by 2", x.days(2), -1);
        check.due("p11 day 9998", x.look(1), 9998);
        check.due("p11 sour stays", x.of(0, 8), 9998);
        check.due("p11 from 9998 by 1", x.days(1), 0);
        check.due("p11 day 9999", x.look(1), 9999);
        check.due("p11 from 9999 by 1", x.days(1), -1);
        check.due("p11 from 9999 by 400", x.days(400), -1);
        check.due("p11 from 9999 by most", x.days(HIGH), -1);
        check.due("p11 day 9999 stays", x.look(1), 9999);
        x.undo();
        check.due("p11 undone and once more", x.days(1), 0);
        check.due("p11 day 9999 again", x.look(1), 9999);
        DoughDebts y = new DoughDebts();
        y.days(399);
        for (int i = 0; i < 23; i++) y.days(400);
        check.due("p11 from 9599 by 400", y.days(400), 0);
        check.due("p11 day 9999", y.look(1), 9999);
    }

    /** Promise 11: many days at once are the same as one after another. */
    private static void promise11FourHundredAtOnce() {
        DoughDebts x = withHouses(3, 40, 9000);
        DoughDebts y = withHouses(3, 40, 9000);
        x.set(3, 30);
        y.set(3, 30);
        int burnt = 0;
        for (int i = 0; i < 400; i++) burnt += y.days(1);
        check.due("p11 burnt in 400 days", x.days(400), burnt);
        for (int h = 0; h < 3; h++) {
            for (int what = 3; what < 9; what++) check.due("p11 of " + h + " " + what, x.of(h, what), y.of(h, what));
        }
        for (int what = 1; what < 7; what++) check.due("p11 look " + what, x.look(what), y.look(what));
    }

    /** Terms 2: "If SLEEP is above 0 and there are HOUSES, a DRAW". */
    private static void promise11NoHouses() {
        DoughDebts x = new DoughDebts();
        x.set(3, 100);
        x.state(7);
        check.due("p11 no houses", x.days(400), 0);
        check.due("p11 no draw", x.look(2), 7);
        check.due("p11 day", x.look(1), 400);
        check.due("p11 nothing lost", x.look(6), 0);
        check.due("p11 nobody burnt", x.book(100), -1);
        Check.house(x, 1, 1, 1, "a");
        for (int what = 3; what < 10; what++) check.due("p11 the first house's " + what, x.of(0, what), 0);
        check.due("p11 one house", x.days(1), 1);
        check.due("p11 two draws", x.look(2), next(next(7)));
    }

    /** Terms 2: with SLEEP 0 no DRAW, with SLEEP 1 one at least. */
    private static void promise11NoDrawWithoutSleep() {
        DoughDebts x = withHouses(2, 9, 99);
        int state = stateBefore(50);
        x.state(state);
        check.due("p11 sleep 0", x.days(3), 0);
        check.due("p11 no draw", x.look(2), state);
        x.set(3, 1);
        check.due("p11 sleep 1", x.days(1), 0);
        check.due("p11 one draw", x.look(2), next(state));
        x.set(3, 0);
        x.days(1);
        check.due("p11 sleep 0 again", x.look(2), next(state));
    }

    /** Terms 2: "if that is below SLEEP": a DRAW as great as SLEEP burns none, one less does. */
    private static void promise11BelowSleep() {
        for (int draw : new int[] {0, 1, 2, 49, 50, 98, 99}) {
            int state = stateBefore(draw);
            DoughDebts x = withHouses(3, 9, 99);
            x.state(state);
            x.set(3, draw);
            check.due("p11 draw " + draw + " as sleep", x.days(1), 0);
            check.due("p11 draws", x.look(2), draw == 0 ? state : next(state));
            check.due("p11 none burnt", x.book(100), -1);
            check.due("p11 none lost", x.look(6), 0);
            DoughDebts y = withHouses(3, 9, 99);
            y.state(state);
            y.set(3, draw + 1);
            check.due("p11 draw " + draw + " below sleep", y.days(1), 1);
            check.due("p11 two draws", y.look(2), next(next(state)));
            check.due("p11 who is burnt", y.book(100), y.book(drawn(next(next(state)), 3)));
            check.due("p11 lost", y.look(6), 9);
        }
    }

    /** Terms: "its highest 24 bits (without sign) modulo m", also of a STATE below 0. */
    private static void promise11DrawWithoutSign() {
        int tried = 0;
        for (int state = 0; tried < 40; state += 7919) {
            int second = next(next(state));
            if (second >= 0) continue;
            tried++;
            DoughDebts x = withHouses(7, 9, 99);
            x.set(3, 100);
            x.state(state);
            check.due("p11 burnt by a state below 0", x.days(1), 1);
            check.due("p11 place by a state below 0", x.book(100), x.book(drawn(second, 7)));
        }
        // The first DRAW counts by all of its 24 bits, too.
        int state = 0;
        while (next(state) >= 0 || drawn(next(state), 100) < 60) state++;
        DoughDebts x = withHouses(2, 9, 99);
        x.state(state);
        x.set(3, drawn(next(state), 100));
        check.due("p11 not below sleep", x.days(1), 0);
    }

    /** Terms: STATE is an int, which wraps. */
    private static void promise11StateWraps() {
        for (int state : new int[] {LOW, HIGH, -1, 0}) {
            DoughDebts x = withHouses(1, 9, 99);
            x.set(3, 100);
            x.state(state);
            x.days(1);
            check.due("p11 state behind " + state, x.look(2), next(next(state)));
            check.due("p11 the only one is burnt", x.book(100), 0);
        }
    }

    /** Terms 2: "a DRAW of HOUSES tells the place at which the loaf is BURNT", not the HOUSE. */
    private static void promise11BurntByPlace() {
        for (int place = 0; place < 3; place++) {
            DoughDebts x = withHouses(3, 9, 99);
            Check.text(x, "worth house;");
            x.days(1);
            x.set(3, 100);
            x.state(stateBeforeSecond(place, 3));
            check.due("p11 one burnt", x.days(1), 1);
            check.due("p11 burnt at place " + place, x.book(100), 2 - place);
        }
    }

    /** Terms 2: "a BURNT loaf is lost whole", its DOUGH and wood with it; what comes from behind stays. */
    private static void promise11LostWhole() {
        int[][] bread = {{10, 90, 80}, {90, 10, 80}, {100, 80, 0}};
        for (int place = 0; place < 3; place++) {
            DoughDebts x = withHouses(3, 90, 1000);
            x.set(1, 99);
            x.set(3, 100);
            x.state(stateBeforeSecond(place, 3));
            x.days(1);
            ofAll("p11 bread, burnt at " + place, x, 4, bread[place]);
            ofAll("p11 dough", x, 3, 910, 910, 910);
            ofAll("p11 wood", x, 5, 1, 1, 1);
            ofAll("p11 sour", x, 8, 0, 0, 0);
            check.due("p11 lost", x.look(6), 90);
        }
        DoughDebts y = withHouses(3, 90, 1000);
        y.days(1);
        ofAll("p11 bread, none burnt", y, 4, 100, 90, 80);
        check.due("p11 none lost", y.look(6), 0);
    }

    /** Terms 2: the place alone tells who is BURNT; with nothing to bake nothing is lost, and it sours. */
    private static void promise11BurntNothing() {
        DoughDebts x = withHouses(2, 9, 0);
        x.set(3, 100);
        x.state(stateBeforeSecond(1, 2));
        check.due("p11 burnt without a loaf", x.days(1), 1);
        check.due("p11 who", x.book(100), 1);
        check.due("p11 nothing lost", x.look(6), 0);
        ofAll("p11 sour", x, 8, 1, 1);
    }

    /** Terms 2: "a loaf of SIZE, or of all its DOUGH if that is less". */
    private static void promise11LoafBySizeOrDough() {
        for (int dough : new int[] {0, 1, 99, 100, 101, 200}) {
            DoughDebts x = withHouses(1, 100, dough);
            x.days(1);
            int loaf = Math.min(100, dough);
            check.due("p11 bread of " + dough, x.of(0, 4), loaf);
            check.due("p11 dough of " + dough, x.of(0, 3), dough - loaf);
        }
        DoughDebts most = withHouses(1, 999, 1000);
        most.days(1);
        check.due("p11 bread of 999", most.of(0, 4), 999);
        check.due("p11 dough behind 999", most.of(0, 3), 1);
        most.days(2);
        check.due("p11 bread of all", most.of(0, 4), 1000);
        check.due("p11 sour by the third day", most.of(0, 8), 1);
    }

    /** Terms 2: "one whose loaf would be 0 puts in no wood, and HEAT stays"; one with a loaf of 1 does. */
    private static void promise11NoLoafNoWood() {
        int[][] middle = {{0, 50}, {50, 0}, {1, 50}, {50, 1}};
        for (int[] m : middle) {
            DoughDebts x = new DoughDebts();
            Check.house(x, 9, 50, 10, "a");
            Check.house(x, m[0], 999, 99, "b");
            Check.house(x, 9, 40, 1, "c");
            x.give(0, 9);
            x.give(1, m[1]);
            x.give(2, 9);
            x.set(1, 1);
            x.days(1);
            boolean bakes = m[0] > 0 && m[1] > 0;
            // 50 less 10 is 40: enough for the third, if the second leaves it. Else 96 pieces to 1000, less 99.
            ofAll("p11 wood", x, 5, 5, bakes ? 96 : 0, 0);
            DoughDebts y = new DoughDebts();
            Check.house(y, 9, 50, 10, "a");
            Check.house(y, m[0], 1, 99, "b");
            Check.house(y, 9, 40, 1, "c");
            y.give(0, 9);
            y.give(1, m[1]);
            y.give(2, 9);
            y.days(1);
            // The second needs no wood, but if it bakes, it takes all heat.
            ofAll("p11 wood of the third", y, 5, 5, 0, bakes ? 4 : 0);
        }
    }

    /** Terms 2: "as many pieces of wood as are needed to have HEAT at its NEED or above". */
    private static void promise11PiecesOfWood() {
        int[][] told = {{10, 1, 1}, {10, 9, 1}, {10, 10, 1}, {10, 11, 2}, {10, 20, 2}, {10, 21, 3}, {10, 999, 100},
            {99, 98, 1}, {99, 99, 1}, {99, 100, 2}, {99, 990, 10}, {99, 991, 11}, {1, 1, 1}, {1, 2, 2}, {1, 999, 999}};
        for (int[] t : told) {
            DoughDebts x = new DoughDebts();
            Check.house(x, 9, t[1], 1, "a");
            x.give(0, 9);
            x.set(0, t[0]);
            x.days(1);
            check.due("p11 wood by power " + t[0] + " for " + t[1], x.of(0, 5), t[2]);
        }
    }

    private static DoughDebts two(int needOne, int minutesOne, int needTwo) {
        DoughDebts x = new DoughDebts();
        Check.house(x, 9, needOne, minutesOne, "a");
        Check.house(x, 9, needTwo, 1, "b");
        x.give(0, 99);
        x.give(1, 99);
        return x;
    }

    /** Terms 2: a warm oven wants wood for what it lacks alone; HEAT above NEED stays as it is. */
    private static void promise11WarmOven() {
        int[][] told = {{1, 0}, {39, 0}, {40, 0}, {41, 1}, {49, 1}, {50, 1}, {51, 2}};
        for (int[] t : told) {
            // 5 pieces make 50, by the first one's 10 minutes 40.
            DoughDebts x = two(41, 10, t[0]);
            x.days(1);
            ofAll("p11 wood for 41 and " + t[0], x, 5, 5, t[1]);
        }
    }

    /** Terms 2: "HEAT falls by COOL times MINUTES, 0 at least". */
    private static void promise11HeatFalls() {
        // Minutes of the first, which leaves 50 less those; pieces of the second for 10 and for 11.
        int[][] told = {{39, 0, 0}, {40, 0, 1}, {41, 1, 1}, {48, 1, 1}, {49, 1, 1}, {50, 1, 2}, {51, 1, 2}, {59, 1, 2},
            {60, 1, 2}, {99, 1, 2}};
        for (int[] t : told) {
            for (int k = 1; k <= 2; k++) {
                DoughDebts x = two(50, t[0], 9 + k);
                x.days(1);
                ofAll("p11 wood behind " + t[0] + " minutes", x, 5, 5, t[k]);
            }
        }
        DoughDebts x = two(50, 99, 50);
        x.set(1, 0);
        x.days(1);
        ofAll("p11 cool 0", x, 5, 5, 0);
        DoughDebts y = two(50, 99, 1);
        y.set(1, 99);
        y.days(1);
        ofAll("p11 cool 99 by 99 minutes", y, 5, 5, 1);
        DoughDebts z = two(50, 7, 22);
        z.set(1, 4);
        z.days(1);
        ofAll("p11 cool 4 by 7 minutes leaves 22", z, 5, 5, 0);
        DoughDebts w = two(50, 7, 23);
        w.set(1, 4);
        w.days(1);
        ofAll("p11 cool 4 by 7 minutes lacks 1", w, 5, 5, 1);
    }

    /** Terms 2: on each DAY "THE OVEN is cold (HEAT 0)". */
    private static void promise11ColdEachDay() {
        DoughDebts x = two(50, 1, 50);
        x.set(1, 0);
        x.days(1);
        ofAll("p11 first day", x, 5, 5, 0);
        x.days(1);
        ofAll("p11 second day", x, 5, 10, 0);
    }

    /** Terms 2: "Of the loaf a ninth is BREAD of who baked just ahead (the first one owes none)", downwards. */
    private static void promise11Ninth() {
        int[][] told = {{1, 0}, {8, 0}, {9, 1}, {10, 1}, {17, 1}, {18, 2}, {998, 110}, {999, 111}};
        for (int[] t : told) {
            DoughDebts x = withHouses(2, t[0], 5000);
            x.days(1);
            ofAll("p11 bread of loaves of " + t[0], x, 4, t[0] + t[1], t[0] - t[1]);
        }
        // Who stands just ahead has it, though it has nothing to bake itself.
        DoughDebts x = new DoughDebts();
        Check.house(x, 90, 10, 1, "a");
        Check.house(x, 0, 10, 1, "b");
        Check.house(x, 90, 10, 1, "c");
        x.give(0, 90);
        x.give(2, 90);
        x.days(1);
        ofAll("p11 bread around one without a loaf", x, 4, 90, 10, 80);
        DoughDebts y = withHouses(2, 90, 0);
        y.give(1, 90);
        y.days(1);
        ofAll("p11 bread of a first one without a loaf", y, 4, 10, 80);
    }

    /** Terms 2: "SOUR: one more for a HOUSE that had nothing to bake, else 0". */
    private static void promise11Sour() {
        DoughDebts x = withHouses(2, 10, 0);
        Check.house(x, 0, 1, 1, "c");
        x.give(0, 15);
        x.give(2, 50);
        int[] sour = {0, 0, 1, 2};
        for (int day = 0; day < 4; day++) {
            x.days(1);
            ofAll("p11 sour on day " + day, x, 8, sour[day], day + 1, day + 1);
        }
        x.give(0, 1);
        x.give(1, 1);
        x.days(1);
        ofAll("p11 sour no more", x, 8, 0, 0, 5);
        x.days(1);
        ofAll("p11 sour again", x, 8, 1, 1, 6);
    }

    /** Terms 2: "The one at the first place has FIRST one more, on MONDAYS MONDAYS, too". */
    private static void promise11FirstAndMondays() {
        DoughDebts x = withHouses(1, 0, 0);
        int[] mondays = {1, 1, 1, 1, 1, 1, 1, 2, 2, 2, 2, 2, 2, 2, 3, 3};
        for (int day = 0; day < mondays.length; day++) {
            x.days(1);
            check.due("p11 first", x.of(0, 6), day + 1);
            check.due("p11 mondays by day " + day, x.of(0, 7), mondays[day]);
        }
        DoughDebts y = withHouses(2, 9, 9);
        y.days(1);
        ofAll("p11 only the first place", y, 6, 1, 0);
        ofAll("p11 only the first place on Monday", y, 7, 1, 0);
        y.days(6);
        ofAll("p11 a week", y, 6, 7, 0);
        y.days(1);
        ofAll("p11 the other one's Monday", y, 6, 7, 1);
        ofAll("p11 a Monday each", y, 7, 1, 1);
    }

    /** Terms 2: each DAY has its own ORDER, by what is at its beginning. */
    private static void promise11OrderIsOfItsOwnDay() {
        DoughDebts x = new DoughDebts();
        Check.house(x, 20, 10, 1, "a");
        Check.house(x, 5, 10, 1, "b");
        x.days(1);
        Check.text(x, "worth dough;");
        x.give(0, 25);
        x.give(1, 20);
        // 25 and 20, 5 and 15, 0 and 10, 0 and 5, none.
        for (int first : new int[] {0, 1, 1, 1, 0}) {
            x.days(1);
            check.due("p11 first by dough", x.book(0), first);
        }
        ofAll("p11 three times first, each", x, 6, 3, 3);
        Check.text(x, "worth 0-first;");
        // DAY 7 is a Monday, and house 1 has none yet.
        for (int first : new int[] {0, 1, 0, 1, 0}) {
            x.days(1);
            check.due("p11 first by turns", x.book(0), first);
        }
        check.due("p11 day", x.look(1), 11);
    }

    /** Promise 13: "NONE if there was no DAY yet". */
    private static void promise13NoDayYet() {
        DoughDebts x = withHouses(9, 1, 1);
        for (int what : new int[] {0, 1, 8, 100}) check.due("p13 no day, " + what, x.book(what), -1);
        x.days(1);
        check.due("p13 a day", x.book(8), 8);
        x.undo();
        for (int what : new int[] {0, 1, 8, 100}) check.due("p13 day undone, " + what, x.book(what), -1);
    }

    /** Promise 13: places 0 .. as many as stood, 100 "who was BURNT (NONE: none)", NONE for "none such". */
    private static void promise13What() {
        for (int count : new int[] {0, 1, 2, 9}) {
            DoughDebts x = withHouses(count, 1, 9);
            x.days(1);
            for (int place = 0; place < count; place++) check.due("p13 place " + place, x.book(place), place);
            for (int what : new int[] {LOW, -1, count, count + 1, 9, 10, 99, 100, 101, HIGH}) {
                check.due("p13 book " + what + " of " + count, x.book(what), -1);
            }
        }
        DoughDebts x = withHouses(9, 1, 9);
        x.set(3, 100);
        x.state(stateBeforeSecond(8, 9));
        x.days(1);
        check.due("p13 burnt at the last place", x.book(100), 8);
        check.due("p13 book 99", x.book(99), -1);
        check.due("p13 book 101", x.book(101), -1);
    }

    /** Promise 13: "THE BOOK of the latest DAY": what is told behind it changes nothing there. */
    private static void promise13LatestDay() {
        DoughDebts x = withHouses(2, 1, 9);
        x.set(3, 100);
        x.days(2);
        check.due("p13 somebody is burnt", x.book(100) >= 0, true);
        Check.text(x, "worth house;");
        Check.house(x, 1, 1, 1, "a");
        check.due("p13 stood", x.book(0), 0);
        check.due("p13 not the new one", x.book(2), -1);
        x.set(3, 0);
        x.days(1);
        check.due("p13 the new one first", x.book(0), 2);
        check.due("p13 nobody burnt any more", x.book(100), -1);
    }

    /** Promise 27 and Terms 4: "8 are kept". */
    private static void promise27EightAreKept() {
        for (int n : new int[] {1, 7, 8, 9, 10, 16, 17, 400}) {
            for (int step : new int[] {1, n}) {
                DoughDebts x = withHouses(1, 1, 500);
                for (int gone = 0; gone < n; gone += step) x.days(step);
                int kept = Math.min(n, 8);
                check.due("p27 kept of " + n, x.look(5), kept);
                for (int i = 1; i <= kept; i++) {
                    check.due("p27 undo " + i + " of " + n, x.undo(), true);
                    check.due("p27 day", x.look(1), n - i);
                    check.due("p27 bread", x.of(0, 4), n - i);
                    check.due("p27 left", x.look(5), kept - i);
                }
                check.due("p27 no more of " + n, x.undo(), false);
                check.due("p27 day stays", x.look(1), n - kept);
            }
        }
    }

    /** Promise 27: "false if there is nothing"; "the latest DAY not undone yet", new ones behind undone ones. */
    private static void promise27NothingLeft() {
        DoughDebts x = withHouses(1, 1, 500);
        check.due("p27 no day yet", x.undo(), false);
        x.days(8);
        for (int i = 0; i < 3; i++) x.undo();
        x.days(2);
        check.due("p27 5 and 2", x.look(5), 7);
        x.days(1);
        check.due("p27 5 and 3", x.look(5), 8);
        x.days(1);
        check.due("p27 8 at most", x.look(5), 8);
        for (int i = 0; i < 8; i++) check.due("p27 undo", x.undo(), true);
        check.due("p27 day 1", x.look(1), 1);
        check.due("p27 nothing left", x.undo(), false);
        check.due("p27 nothing done", x.look(1), 1);
        check.due("p27 bread of day 0 stays", x.of(0, 4), 1);
    }

    private static int[] all(DoughDebts x) {
        int[] all = new int[30];
        for (int h = 0; h < 3; h++) {
            for (int what = 3; what < 9; what++) all[6 * h + what - 3] = x.of(h, what);
            all[18 + h] = x.book(h);
            all[21 + h] = x.order(h);
        }
        all[24] = x.book(100);
        all[25] = x.look(1);
        all[26] = x.look(2);
        all[27] = x.look(6);
        return all;
    }

    /** Promise 27 and Terms 4: "goes back (all of it, STATE, too)", also what was told as STATE since. */
    private static void promise27AllOfIt() {
        DoughDebts x = withHouses(3, 40, 300);
        Check.text(x, "worth 0-bread-wood when sour=0;");
        x.set(3, 60);
        int[][] before = new int[9][];
        for (int day = 0; day < 9; day++) {
            before[day] = all(x);
            x.days(1);
        }
        for (int day = 8; day >= 1; day--) {
            x.state(day);
            check.due("p27 undo", x.undo(), true);
            int[] now = all(x);
            for (int i = 0; i < now.length; i++) check.due("p27 day " + day + " part " + i, now[i], before[day][i]);
        }
    }

    /** Terms 4: "whatever else is told .. forgets them": a HOUSE, DOUGH, and what set() tells. */
    private static void promise27WhatForgets() {
        DoughDebts x = withHouses(1, 1, 500);
        x.days(3);
        x.give(0, 0);
        check.due("p27 by 0 of dough", x.look(5), 0);
        check.due("p27 nothing", x.undo(), false);
        check.due("p27 day stays", x.look(1), 3);
        for (int what = 0; what < 4; what++) {
            x.days(1);
            check.due("p27 one again", x.look(5), 1);
            x.set(what, x.look(10 + what));
            check.due("p27 by set " + what, x.look(5), 0);
            check.due("p27 nothing", x.undo(), false);
        }
        x.days(9);
        Check.house(x, 1, 1, 1, "a");
        check.due("p27 by a house", x.look(5), 0);
        check.due("p27 nothing", x.undo(), false);
        x.days(1);
        check.due("p27 a day behind it", x.undo(), true);
        check.due("p27 that day alone", x.undo(), false);
    }

    /** Terms 4: "but THE RULE, LEAVENS, RISE, DEBTS, STATE", which stay as told when a DAY goes back. */
    private static void promise27WhatDoesNot() {
        DoughDebts x = withHouses(2, 1, 500);
        x.days(2);
        Check.text(x, "worth house;");
        check.due("p27 the rule", x.look(5), 2);
        x.leaven(0, -1);
        x.leaven(0, 0);
        check.due("p27 leavens", x.look(5), 2);
        x.rise(0, 1, 9);
        check.due("p27 rise", x.look(5), 2);
        x.owe(0, 1, 5);
        check.due("p27 debts", x.look(5), 2);
        x.state(5);
        check.due("p27 state", x.look(5), 2);
        x.feed(0, 0, 0, 0, 0);
        x.end(0);
        for (int what = 0; what < 2; what++) {
            x.orders(what);
            x.round(what);
            x.least(what);
            x.order(what);
        }
        x.payments();
        Check.gain(x, "01", 0);
        Check.odds(x, "a", 0, 0);
        Check.whose(x, "a", 0);
        check.due("p27 what only asks", x.look(5), 2);
        x.undo();
        check.due("p27 rule stays", x.look(4), 1);
        check.due("p27 order by it", x.order(0), 1);
        check.due("p27 leavens stay", x.look(3), 2);
        check.due("p27 rise stays", Check.odds(x, "b", 0, 1), 2);
        check.due("p27 debts stay", x.of(1, 9), 5);
    }

    /** Terms 4: what was refused was not told, and forgets nothing. */
    private static void promise27RefusedForgetsNothing() {
        DoughDebts x = withHouses(9, 1, 500);
        x.days(2);
        x.give(0, -1);
        x.give(0, 100000);
        x.give(9, 1);
        x.set(0, 0);
        x.set(4, 0);
        Check.house(x, 1, 1, 1, "a");
        x.image(false);
        x.days(0);
        x.days(401);
        check.due("p27 refused", x.look(5), 2);
        check.due("p27 undo", x.undo(), true);
    }
}
