/** Promises 11, 13 and 27: days, book, undo. */
public final class DaysTest {
    private static final Check check = new Check();

    public static void main(String[] args) {
        oneDay();
        smallLoaves();
        heat();
        burnt();
        withoutHouses();
        bounds();
        undo();
        forgetting();
        check.finish("DaysTest");
    }

    private static void ofAll(DoughDebts x, int what, int... want) {
        for (int h = 0; h < want.length; h++) check.due("of " + h + " " + what, x.of(h, what), want[h]);
    }

    private static void oneDay() {
        DoughDebts x = new DoughDebts();
        Check.house(x, 100, 50, 10, "a");
        Check.house(x, 45, 30, 5, "b");
        Check.house(x, 62, 70, 1, "c");
        for (int h = 0; h < 3; h++) x.give(h, 200);
        check.due("book before", x.book(0), -1);
        check.due("days", x.days(1), 0);
        // Wood: 5 to 50, then 40 left; none for 30, then 35; 4 to 75.
        ofAll(x, 5, 5, 0, 4);
        ofAll(x, 3, 100, 155, 138);
        // Ninths: none of 100, 5 of 45 to house 0, 6 of 62 to house 1.
        ofAll(x, 4, 105, 46, 56);
        ofAll(x, 6, 1, 0, 0);
        ofAll(x, 7, 1, 0, 0);
        ofAll(x, 8, 0, 0, 0);
        for (int i = 0; i < 3; i++) check.due("book " + i, x.book(i), i);
        check.due("book 3", x.book(3), -1);
        check.due("book -1", x.book(-1), -1);
        check.due("book lowest", x.book(Integer.MIN_VALUE), -1);
        check.due("book 100", x.book(100), -1);
        check.due("book 101", x.book(101), -1);
        check.due("day", x.look(1), 1);
        check.due("no draw without sleep", x.look(2), 0);
        Check.house(x, 1, 1, 1, "d");
        check.due("a house that came later isn't in the book", x.book(3), -1);
    }

    private static void smallLoaves() {
        DoughDebts x = new DoughDebts();
        Check.house(x, 100, 50, 1, "a");
        Check.house(x, 100, 60, 1, "b");
        Check.house(x, 100, 70, 1, "c");
        x.give(0, 150);
        x.give(2, 20);
        x.days(1);
        // House 1 bakes nothing, but stands just ahead of house 2.
        ofAll(x, 3, 50, 0, 0);
        ofAll(x, 4, 100, 2, 18);
        ofAll(x, 5, 5, 0, 3);
        ofAll(x, 8, 0, 1, 0);
        x.days(1);
        ofAll(x, 3, 0, 0, 0);
        ofAll(x, 4, 150, 2, 18);
        ofAll(x, 8, 0, 2, 1);
        x.give(1, 8);
        x.days(1);
        ofAll(x, 4, 150, 10, 18);
        ofAll(x, 8, 1, 0, 2);
        ofAll(x, 6, 3, 0, 0);
    }

    private static void heat() {
        DoughDebts x = new DoughDebts();
        for (int h = 0; h < 3; h++) {
            Check.house(x, 1, 10, 3, "a");
            x.give(h, 100);
        }
        x.set(0, 3);
        x.set(1, 4);
        x.days(1);
        // 4 pieces to 12, 12 less: 0; so each anew.
        ofAll(x, 5, 4, 4, 4);
        x.set(1, 5);
        x.days(1);
        // Heat never falls below 0.
        ofAll(x, 5, 8, 8, 8);
        x.set(1, 0);
        x.days(1);
        ofAll(x, 5, 12, 8, 8);
        x.set(0, 99);
        x.set(1, 1);
        x.days(1);
        ofAll(x, 5, 13, 8, 8);
    }

    /** The draws are worked out here once more, from their own words. */
    private static void burnt() {
        DoughDebts x = new DoughDebts();
        for (int h = 0; h < 3; h++) {
            Check.house(x, 90, 1, 1, "a");
            x.give(h, 99999);
        }
        x.set(3, 40);
        x.state(12345);
        int state = 12345;
        int lost = 0;
        for (int day = 0; day < 60; day++) {
            state = state * 1664525 + 1013904223;
            int place = -1;
            if (Integer.remainderUnsigned(state >>> 8, 100) < 40) {
                state = state * 1664525 + 1013904223;
                place = Integer.remainderUnsigned(state >>> 8, 3);
                lost += 90;
            }
            check.due("days", x.days(1), place < 0 ? 0 : 1);
            check.due("state", x.look(2), state);
            check.due("burnt", x.book(100), place < 0 ? -1 : x.book(place));
            check.due("lost", x.look(6), lost);
        }
        int bread = x.of(0, 4) + x.of(1, 4) + x.of(2, 4);
        check.due("all bread", bread, 60 * 270 - lost);
        check.due("a burnt loaf takes dough", x.of(0, 3), 99999 - 60 * 90);
        x.set(3, 100);
        check.due("all burnt", x.days(400), 400);
    }

    private static void withoutHouses() {
        DoughDebts x = new DoughDebts();
        x.set(3, 100);
        check.due("days without houses", x.days(3), 0);
        check.due("no draw", x.look(2), 0);
        check.due("day", x.look(1), 3);
        check.due("book", x.book(0), -1);
        check.due("book 100", x.book(100), -1);
        check.due("undo", x.undo(), true);
        check.due("day", x.look(1), 2);
    }

    private static void bounds() {
        DoughDebts x = new DoughDebts();
        for (int n : new int[] {0, -1, 401, Integer.MIN_VALUE, Integer.MAX_VALUE}) {
            check.due("days " + n, x.days(n), -1);
        }
        check.due("nothing done", x.look(1), 0);
        for (int i = 0; i < 24; i++) check.due("days 400", x.days(400), 0);
        check.due("days beyond 9999", x.days(400), -1);
        check.due("days up to 9999", x.days(399), 0);
        check.due("day", x.look(1), 9999);
        check.due("one day more", x.days(1), -1);
        check.due("kept", x.look(5), 8);
        check.due("undo", x.undo(), true);
        check.due("one day more", x.days(1), 0);
    }

    private static void undo() {
        DoughDebts x = new DoughDebts();
        for (int h = 0; h < 2; h++) {
            Check.house(x, 90, 20, 5, "a");
            x.give(h, 1000);
        }
        x.set(3, 50);
        x.days(3);
        check.due("can be undone", x.look(5), 3);
        int[] before = snapshot(x);
        x.days(1);
        x.state(99);
        check.due("undo", x.undo(), true);
        same(before, snapshot(x));
        check.due("can be undone", x.look(5), 3);
        x.days(9);
        check.due("8 are kept", x.look(5), 8);
        for (int i = 0; i < 8; i++) check.due("undo " + i, x.undo(), true);
        check.due("undo 9", x.undo(), false);
        check.due("day", x.look(1), 4);
        x.days(2);
        check.due("kept anew", x.look(5), 2);
        x.undo();
        x.undo();
        check.due("none left", x.undo(), false);
        check.due("day", x.look(1), 4);
        x.days(17);
        before = snapshot(x);
        x.days(8);
        for (int i = 0; i < 8; i++) x.undo();
        same(before, snapshot(x));
        x.days(20);
        for (int i = 0; i < 8; i++) x.undo();
        check.due("the last 8 of 20", x.look(1), 33);
    }

    private static int[] snapshot(DoughDebts x) {
        int[] all = new int[26];
        for (int what = 0; what < 10; what++) {
            all[what] = x.of(0, what);
            all[10 + what] = x.of(1, what);
        }
        all[20] = x.look(1);
        all[21] = x.look(2);
        all[22] = x.look(6);
        all[23] = x.book(0);
        all[24] = x.book(1);
        all[25] = x.book(100);
        return all;
    }

    private static void same(int[] before, int[] after) {
        for (int i = 0; i < before.length; i++) check.due("undone " + i, after[i], before[i]);
    }

    /** What else is told forgets what can be undone; the rule, leavens, rises, debts and the state don't. */
    private static void forgetting() {
        DoughDebts x = new DoughDebts();
        Check.house(x, 90, 20, 5, "a");
        Check.house(x, 90, 20, 5, "b");
        x.days(2);
        Check.text(x, "worth house;");
        Check.text(x, "worth");
        x.leaven(0, -1);
        x.leaven(0, 0);
        x.rise(0, 0, 1);
        x.owe(0, 1, 5);
        x.state(5);
        x.image(true);
        Check.gain(x, "01", 0);
        Check.whose(x, "a", 0);
        x.give(0, -1);
        x.set(0, 0);
        Check.house(x, 0, 0, 0, "a");
        check.due("not forgotten", x.look(5), 2);
        x.give(0, 0);
        check.due("forgotten by give", x.look(5), 0);
        check.due("nothing to undo", x.undo(), false);
        check.due("day stays", x.look(1), 2);
        x.days(2);
        x.set(1, 1);
        check.due("forgotten by set", x.look(5), 0);
        x.days(2);
        Check.house(x, 1, 1, 1, "a");
        check.due("forgotten by house", x.look(5), 0);
        x.days(1);
        x.owe(0, 1, 7);
        x.undo();
        check.due("debts stay when a day is undone", x.of(1, 9), 12);
    }
}
