/** Boundaries of promises 28 and 29: each one at its place, just within it and just beyond it. */
public final class ImageEdgesTest {
    private static final Check check = new Check();
    private static final int FAR = -1000000000;
    private static final int LOW = Integer.MIN_VALUE;
    private static final int HIGH = Integer.MAX_VALUE;

    public static void main(String[] args) {
        promise28NoneYet();
        promise28OfANewObject();
        promise28MoreThanOnce();
        promise28LatestCounts();
        promise28NothingToUndo();
        promise28TakingForgetsNothing();
        promise28NotTheTape();
        promise28NotTheFault();
        promise28Houses();
        promise28WhatDaysChange();
        promise28Settings();
        promise28Rule();
        promise28Leavens();
        promise28Rise();
        promise28Debts();
        promise28State();
        promise29What();
        promise29HousesAndLeavens();
        promise29Day();
        promise29Lines();
        promise29Lost();
        promise29Undone();
        check.finish("ImageEdgesTest");
    }

    private static DoughDebts withHouses(int count) {
        DoughDebts x = new DoughDebts();
        for (int h = 0; h < count; h++) {
            Check.house(x, 90, 10, 1, "ab");
            x.give(h, 900);
        }
        return x;
    }

    /** Promise 28: "false if there is none", and nothing is changed then. */
    private static void promise28NoneYet() {
        DoughDebts x = withHouses(2);
        x.days(3);
        check.due("p28 none yet", x.image(false), false);
        check.due("p28 none yet still", x.image(false), false);
        check.due("p28 houses stay", x.look(0), 2);
        check.due("p28 day stays", x.look(1), 3);
        check.due("p28 still to be undone", x.look(5), 3);
        check.due("p28 taken", x.image(true), true);
        check.due("p28 gone back", x.image(false), true);
    }

    /** Promise 28: an image of nothing is one. */
    private static void promise28OfANewObject() {
        DoughDebts x = new DoughDebts();
        check.due("p28 taken", x.image(true), true);
        Check.house(x, 1, 1, 1, "a");
        x.set(0, 99);
        Check.text(x, "worth 1;");
        x.days(1);
        check.due("p28 gone back", x.image(false), true);
        int[] looks = {0, 0, 0, 0, 0, 0, 0, -1, -1, -1, 10, 1, 1, 0};
        for (int what = 0; what < looks.length; what++) check.due("p28 look " + what, x.look(what), looks[what]);
        check.due("p28 no house", x.of(0, 0), FAR);
        check.due("p28 no book", x.book(0), -1);
        check.due("p28 a house anew", Check.house(x, 7, 7, 7, "h"), 0);
        for (int what = 3; what < 10; what++) check.due("p28 anew " + what, x.of(0, what), 0);
        check.due("p28 its letter", x.of(0, 10), 7);
        check.due("p28 one letter", x.of(0, 11), FAR);
    }

    /** Terms 4: "gone back to it may be more than once". */
    private static void promise28MoreThanOnce() {
        DoughDebts x = withHouses(2);
        x.days(2);
        x.image(true);
        int bread = x.of(0, 4);
        for (int i = 0; i < 3; i++) {
            x.days(5);
            x.give(0, 50);
            check.due("p28 gone back", x.image(false), true);
            check.due("p28 day", x.look(1), 2);
            check.due("p28 bread", x.of(0, 4), bread);
            check.due("p28 again at once", x.image(false), true);
            check.due("p28 day again", x.look(1), 2);
        }
    }

    /** Promise 28: the image is "as it was when it was taken", the latest one. */
    private static void promise28LatestCounts() {
        DoughDebts x = withHouses(1);
        x.image(true);
        x.days(1);
        x.image(true);
        x.days(1);
        x.image(false);
        check.due("p28 the latest", x.look(1), 1);
        x.image(true);
        x.days(2);
        x.image(false);
        check.due("p28 taken where one went back", x.look(1), 1);
    }

    /** Terms 4: "what can be undone (nothing then)"; days behind it can be, and no others. */
    private static void promise28NothingToUndo() {
        DoughDebts x = withHouses(1);
        x.days(3);
        x.image(true);
        x.days(8);
        x.image(false);
        check.due("p28 nothing", x.look(5), 0);
        check.due("p28 no undo", x.undo(), false);
        check.due("p28 day", x.look(1), 3);
        x.days(1);
        check.due("p28 one", x.look(5), 1);
        check.due("p28 undo it", x.undo(), true);
        check.due("p28 day again", x.look(1), 3);
        check.due("p28 no more", x.undo(), false);
        x.image(false);
        check.due("p28 nothing at once", x.look(5), 0);
    }

    /** Promise 28: taking an image changes nothing. */
    private static void promise28TakingForgetsNothing() {
        DoughDebts x = withHouses(1);
        x.days(9);
        x.image(true);
        check.due("p28 eight still", x.look(5), 8);
        for (int i = 0; i < 8; i++) check.due("p28 undo", x.undo(), true);
        check.due("p28 day 1", x.look(1), 1);
        x.image(false);
        check.due("p28 day 9", x.look(1), 9);
    }

    /** Terms 4: "all .. but the TAPE". */
    private static void promise28NotTheTape() {
        DoughDebts x = withHouses(1);
        x.feed(0x61626364, 0, 0, 0, 0);
        x.end(4);
        x.image(true);
        x.end(2);
        x.image(false);
        check.due("p28 two bytes still", x.end(3), false);
        check.due("p28 house of them", x.house(1, 1, 1), 1);
        check.due("p28 a", x.of(1, 10), 0);
        check.due("p28 b", x.of(1, 11), 1);
        check.due("p28 no c", x.of(1, 12), FAR);
        x.image(false);
        check.due("p28 empty still", Check.tapeLength(x), 0);
    }

    /** Terms 4: "all .. but .. fault()". */
    private static void promise28NotTheFault() {
        DoughDebts x = withHouses(1);
        Check.text(x, "worth 1/0;");
        x.image(true);
        Check.text(x, "worth 1;");
        x.image(false);
        check.due("p28 no fault still", x.fault(0), 0);
        check.due("p28 no place still", x.fault(1), -1);
        check.due("p28 the rule is gone", x.look(4), 0);
        Check.text(x, "worth");
        x.image(false);
        check.due("p28 fault still", x.fault(0), 1);
        check.due("p28 place still", x.fault(1), 5);
    }

    /** Terms 4: HOUSES with SIZE, NEED, MINUTES and MARK; one that came behind it is gone. */
    private static void promise28Houses() {
        DoughDebts x = withHouses(8);
        x.image(true);
        check.due("p28 ninth", Check.house(x, 1, 2, 3, "hhhhh"), 8);
        check.due("p28 tenth", Check.house(x, 1, 2, 3, "h"), -1);
        x.image(false);
        check.due("p28 eight", x.look(0), 8);
        check.due("p28 ninth is gone", x.of(8, 0), FAR);
        check.due("p28 another ninth", Check.house(x, 4, 5, 6, "c"), 8);
        int[] want = {4, 5, 6, 0, 0, 0, 0, 0, 0, 0, 2};
        for (int what = 0; what < want.length; what++) check.due("p28 of the ninth " + what, x.of(8, what), want[what]);
        check.due("p28 its mark is short", x.of(8, 11), FAR);
        int[] first = {90, 10, 1, 900, 0, 0, 0, 0, 0, 0, 0, 1};
        for (int what = 0; what < first.length; what++) {
            check.due("p28 of the first " + what, x.of(0, what), first[what]);
        }
    }

    /** Terms 4: DOUGH, BREAD, WOOD, FIRST, MONDAYS, SOUR, DAY, THE BOOK, what was lost. */
    private static void promise28WhatDaysChange() {
        DoughDebts x = withHouses(3);
        Check.text(x, "worth house when day<9;");
        x.set(3, 50);
        x.days(8);
        int[] before = all(x);
        x.image(true);
        x.days(30);
        x.image(false);
        int[] now = all(x);
        for (int i = 0; i < now.length; i++) check.due("p28 part " + i, now[i], before[i]);
        x.days(30);
        int[] once = all(x);
        x.image(false);
        x.days(30);
        now = all(x);
        for (int i = 0; i < now.length; i++) check.due("p28 goes on, part " + i, now[i], once[i]);
    }

    private static int[] all(DoughDebts x) {
        int[] all = new int[26];
        for (int h = 0; h < 3; h++) {
            for (int what = 3; what < 9; what++) all[6 * h + what - 3] = x.of(h, what);
            all[18 + h] = x.book(h);
        }
        all[21] = x.book(100);
        all[22] = x.look(1);
        all[23] = x.look(2);
        all[24] = x.look(6);
        all[25] = x.order(0);
        return all;
    }

    /** Terms 4: what was told by set(). */
    private static void promise28Settings() {
        DoughDebts x = new DoughDebts();
        int[] told = {5, 6, 7, 8};
        for (int what = 0; what < 4; what++) x.set(what, told[what]);
        x.image(true);
        for (int what = 0; what < 4; what++) x.set(what, 50);
        x.image(false);
        for (int what = 0; what < 4; what++) check.due("p28 set " + what, x.look(10 + what), told[what]);
    }

    /** Terms 4: THE RULE, its lines and what it orders. */
    private static void promise28Rule() {
        DoughDebts x = withHouses(3);
        x.days(1);
        Check.text(x, "worth 1 when house=1; worth 2 when house=2;");
        x.image(true);
        Check.text(x, "worth 9 when house=0;");
        check.due("p28 other rule", x.order(0), 0);
        x.image(false);
        check.due("p28 lines", x.look(4), 2);
        for (int i = 0; i < 3; i++) check.due("p28 order " + i, x.order(i), 2 - i);
        Check.text(x, "");
        x.image(false);
        check.due("p28 lines again", x.look(4), 2);
        check.due("p28 order again", x.order(0), 2);
    }

    /** Terms 4: LEAVENS; those that came behind it are gone, others come in their place. */
    private static void promise28Leavens() {
        DoughDebts x = withHouses(2);
        x.leaven(0, -1);
        x.leaven(1, -1);
        x.image(true);
        x.leaven(0, 1);
        x.leaven(2, 0);
        x.image(false);
        check.due("p28 two leavens", x.look(3), 2);
        check.due("p28 none of those", x.lent(2, 0), -2);
        check.due("p28 another", x.leaven(1, 1), 2);
        check.due("p28 led from 1", x.led(2, 1), 1);
        check.due("p28 not led from 0", x.led(2, 0), 0);
        check.due("p28 no part of 0", x.part(2, 0, 0), 0);
        check.due("p28 all of 1", x.part(2, 1, 0), 1);
    }

    /** Terms 4: RISE. */
    private static void promise28Rise() {
        DoughDebts x = withHouses(1);
        x.rise(0, 7, 9);
        x.image(true);
        x.rise(0, 7, 0);
        x.rise(1, 1, 0);
        x.image(false);
        check.due("p28 above", Check.odds(x, "hb", 0, 0), 1);
        check.due("p28 below", Check.odds(x, "hb", 0, 1), 2);
    }

    /** Terms 4: DEBTS. */
    private static void promise28Debts() {
        DoughDebts x = withHouses(3);
        x.owe(0, 1, 5);
        x.image(true);
        x.owe(0, 2, 9);
        check.due("p28 two payments", x.payments(), 2);
        x.image(false);
        check.due("p28 one payment", x.payments(), 1);
        check.due("p28 net of 0", x.of(0, 9), -5);
        check.due("p28 net of 1", x.of(1, 9), 5);
        check.due("p28 net of 2", x.of(2, 9), 0);
    }

    /** Terms 4: STATE. */
    private static void promise28State() {
        DoughDebts x = new DoughDebts();
        x.state(HIGH);
        x.image(true);
        x.state(LOW);
        x.image(false);
        check.due("p28 state", x.state(0), HIGH);
    }

    /** Promise 29: "NONE for another what". */
    private static void promise29What() {
        DoughDebts x = withHouses(2);
        x.days(1);
        for (int what : new int[] {LOW, LOW + 9, LOW + 10, -1, 7, 8, 9, 14, 15, 100, HIGH}) {
            check.due("p29 look " + what, x.look(what), -1);
        }
        int[] want = {2, 1, 0, 0, 0, 1, 0};
        for (int what = 0; what < want.length; what++) check.due("p29 look " + what, x.look(what), want[what]);
        int[] set = {10, 1, 1, 0};
        for (int k = 0; k < 4; k++) check.due("p29 look " + (10 + k), x.look(10 + k), set[k]);
    }

    /** Promise 29: 0 HOUSES from 0 to 9, 3 LEAVENS from 0 to 60. */
    private static void promise29HousesAndLeavens() {
        DoughDebts x = new DoughDebts();
        for (int h = 0; h < 9; h++) {
            check.due("p29 houses", x.look(0), h);
            Check.house(x, 1, 1, 1, "a");
        }
        check.due("p29 nine houses", x.look(0), 9);
        Check.house(x, 1, 1, 1, "a");
        check.due("p29 nine houses still", x.look(0), 9);
        for (int k = 0; k < 60; k++) {
            check.due("p29 leavens", x.look(3), k);
            x.leaven(k % 9, -1);
        }
        check.due("p29 sixty leavens", x.look(3), 60);
        x.leaven(0, -1);
        check.due("p29 sixty leavens still", x.look(3), 60);
    }

    /** Promise 29: 1 DAY from 0 on, 2 STATE of any sign. */
    private static void promise29Day() {
        DoughDebts x = new DoughDebts();
        check.due("p29 day at first", x.look(1), 0);
        x.days(1);
        check.due("p29 day 1", x.look(1), 1);
        x.days(400);
        check.due("p29 day 401", x.look(1), 401);
        x.undo();
        check.due("p29 day 400", x.look(1), 400);
        for (int v : new int[] {-1, LOW, HIGH, 0}) {
            x.state(v);
            check.due("p29 state", x.look(2), v);
        }
    }

    /** Promise 29: 4 lines of THE RULE from 0 to 16, not of what was refused. */
    private static void promise29Lines() {
        DoughDebts x = new DoughDebts();
        for (int lines = 0; lines <= 16; lines++) {
            check.due("p29 text", Check.text(x, "worth 1;".repeat(lines)), lines);
            check.due("p29 lines", x.look(4), lines);
        }
        Check.text(x, "worth 1;".repeat(17));
        check.due("p29 sixteen still", x.look(4), 16);
    }

    /** Promise 29: 6 "BREAD lost by BURNT loaves", the loaves as they were. */
    private static void promise29Lost() {
        DoughDebts x = new DoughDebts();
        Check.house(x, 100, 10, 1, "a");
        x.give(0, 250);
        x.set(3, 100);
        int[] lost = {100, 200, 250, 250};
        for (int day = 0; day < 4; day++) {
            check.due("p29 burnt", x.days(1), 1);
            check.due("p29 lost by day " + day, x.look(6), lost[day]);
            check.due("p29 no bread", x.of(0, 4), 0);
        }
        x.undo();
        x.undo();
        check.due("p29 lost, days undone", x.look(6), 200);
    }

    /** Promise 29: 5 "what can be undone" from 0 to 8. */
    private static void promise29Undone() {
        DoughDebts x = new DoughDebts();
        for (int day = 0; day <= 12; day++) {
            check.due("p29 to be undone", x.look(5), Math.min(8, day));
            x.days(1);
        }
        for (int left = 7; left >= 0; left--) {
            x.undo();
            check.due("p29 left", x.look(5), left);
        }
        x.undo();
        check.due("p29 none left", x.look(5), 0);
    }
}
