/** Promises 28 and 29: image, look. */
public final class ImageTest {
    private static final Check check = new Check();

    public static void main(String[] args) {
        goesBack();
        leavesTapeAndFault();
        takenAnew();
        look();
        check.finish("ImageTest");
    }

    private static DoughDebts told() {
        DoughDebts x = new DoughDebts();
        Check.house(x, 90, 50, 10, "abc");
        Check.house(x, 45, 30, 5, "h");
        x.give(0, 500);
        x.give(1, 700);
        x.set(0, 7);
        x.set(1, 2);
        x.set(2, 3);
        x.set(3, 30);
        Check.text(x, "worth house; worth 1;");
        x.leaven(1, -1);
        x.leaven(0, 0);
        x.rise(0, 1, 4);
        x.owe(0, 1, 12);
        x.state(42);
        x.days(12);
        return x;
    }

    private static void changeAll(DoughDebts x) {
        x.days(5);
        x.owe(1, 0, 77);
        x.rise(0, 1, 9);
        x.rise(7, 7, 0);
        x.leaven(0, -1);
        x.leaven(1, 1);
        Check.text(x, "worth 0-house;");
        Check.house(x, 1, 2, 3, "c");
        x.give(2, 9);
        for (int what = 0; what < 4; what++) x.set(what, 20);
        x.state(-1);
        x.days(3);
    }

    private static String all(DoughDebts x) {
        StringBuilder b = new StringBuilder();
        for (int what = 0; what < 15; what++) {
            for (int h = 0; h < 3; h++) b.append(x.of(h, what)).append(' ');
            b.append(x.look(what == 5 ? 0 : what)).append(' ').append(x.order(what)).append(' ');
            b.append(x.book(what)).append(' ').append(x.lent(what, 0)).append(' ').append(x.led(what, 0));
        }
        b.append(' ').append(x.book(100)).append(' ').append(x.payments());
        for (int what = 0; what < 2; what++) {
            b.append(' ').append(Check.odds(x, "abc", 0, what)).append(' ').append(Check.odds(x, "bbc", 0, what));
            b.append(' ').append(Check.odds(x, "h", 1, what)).append(' ').append(x.part(1, 0, what));
            b.append(' ').append(x.round(what));
        }
        for (int what = 0; what < 14; what++) b.append(' ').append(x.orders(what)).append(' ').append(x.least(what));
        return b.toString();
    }

    private static void goesBack() {
        DoughDebts x = told();
        check.due("no image", x.image(false), false);
        check.due("still to undo", x.look(5), 8);
        String before = all(x);
        check.due("taken", x.image(true), true);
        check.due("still to undo", x.look(5), 8);
        check.due("as before", all(x).equals(before), true);
        x.undo();
        x.days(1);
        check.due("the same day again", all(x).equals(before), true);
        for (int i = 0; i < 3; i++) {
            changeAll(x);
            check.due("all is other", all(x).equals(before), false);
            check.due("gone back", x.image(false), true);
            check.due("as it was", all(x).equals(before), true);
            check.due("nothing to undo", x.look(5), 0);
            check.due("no undo", x.undo(), false);
        }
        DoughDebts y = told();
        x.days(40);
        y.days(40);
        check.due("all goes on", all(x).equals(all(y)), true);
    }

    private static void leavesTapeAndFault() {
        DoughDebts x = told();
        x.image(true);
        Check.text(x, "worth 1/0;");
        x.feed(0, 0, 0, 0, 0);
        x.image(false);
        check.due("fault stays", x.fault(0), 2);
        check.due("place stays", x.fault(1), 8);
        check.due("tape stays", Check.tapeLength(x), 20);
        x.feed(0, 0, 0, 0, 0);
        x.image(true);
        x.end(0);
        x.image(false);
        check.due("tape isn't in the image", Check.tapeLength(x), 0);
    }

    private static void takenAnew() {
        DoughDebts x = new DoughDebts();
        check.due("an empty image", x.image(true), true);
        Check.house(x, 1, 1, 1, "a");
        x.image(true);
        Check.house(x, 1, 1, 1, "a");
        x.image(false);
        check.due("the latest image counts", x.look(0), 1);
    }

    private static void look() {
        DoughDebts x = told();
        x.set(3, 100);
        x.days(2);
        int[] want = {2, 14, x.state(0), 2, 2, 2};
        x.state(want[2]);
        for (int what = 0; what < want.length; what++) check.due("look " + what, x.look(what), want[what]);
        check.due("dough is bread or lost", x.of(0, 3) + x.of(1, 3) + x.of(0, 4) + x.of(1, 4) + x.look(6), 1200);
        check.due("something was lost", x.look(6) > 0, true);
        int[] set = {7, 2, 3, 100};
        for (int k = 0; k < 4; k++) check.due("look set " + k, x.look(10 + k), set[k]);
        for (int what : new int[] {-1, 7, 8, 9, 14, 100, Integer.MIN_VALUE, Integer.MAX_VALUE}) {
            check.due("look " + what, x.look(what), -1);
        }
        check.due("NONE", DoughDebts.NONE, -1);
    }
}
