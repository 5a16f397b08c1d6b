/** Promises 1 to 7 and 12: a new object, state, feed, end, house, give, set, of. */
public final class TapeAndHousesTest {
    private static final Check check = new Check();
    private static final int FAR = -1000000000;

    public static void main(String[] args) {
        newObject();
        state();
        tape();
        house();
        give();
        set();
        of();
        check.finish("TapeAndHousesTest");
    }

    private static void newObject() {
        DoughDebts x = new DoughDebts();
        int[] looks = {0, 0, 0, 0, 0, 0, 0, -1, -1, -1, 10, 1, 1, 0, -1};
        for (int what = 0; what < looks.length; what++) check.due("new look " + what, x.look(what), looks[what]);
        check.due("new order", x.order(0), -1);
        check.due("new book", x.book(0), -1);
        check.due("new book 100", x.book(100), -1);
        check.due("new of", x.of(0, 0), FAR);
        check.due("new gain", x.gain(0), FAR);
        check.due("new orders", x.orders(0), 1);
        check.due("new least", x.least(0), 0);
        check.due("new round", x.round(0), 0);
        check.due("new payments", x.payments(), 0);
        check.due("new fault", x.fault(0), 0);
        check.due("new fault place", x.fault(1), -1);
        check.due("new fault 2", x.fault(2), -1);
        check.due("new undo", x.undo(), false);
        check.due("new image", x.image(false), false);
        check.due("new end 0", x.end(0), true);
        check.due("new end 1", x.end(1), false);
    }

    private static void state() {
        DoughDebts x = new DoughDebts();
        check.due("state", x.state(7), 0);
        check.due("state again", x.state(Integer.MIN_VALUE), 7);
        check.due("state lowest", x.state(0), Integer.MIN_VALUE);
        check.due("look state", x.look(2), 0);
    }

    private static void tape() {
        DoughDebts x = new DoughDebts();
        for (int i = 1; i <= 20; i++) check.due("feed " + i, x.feed(1, 2, 3, 4, 5), 20 * i);
        check.due("feed beyond 400", x.feed(1, 2, 3, 4, 5), -1);
        check.due("end 401", x.end(401), false);
        check.due("end 400", x.end(400), true);
        check.due("end -1", x.end(-1), false);
        check.due("end 381", x.end(381), true);
        check.due("feed at 381", x.feed(1, 2, 3, 4, 5), -1);
        check.due("end 380", x.end(380), true);
        check.due("feed at 380", x.feed(1, 2, 3, 4, 5), 400);
        check.due("end lowest", x.end(Integer.MIN_VALUE), false);
        check.due("end 0", x.end(0), true);
        // The highest byte of each number comes first: "abcde" goes over two numbers.
        x.feed(0x61626364, 0x65000000, 0, 0, 0);
        x.end(5);
        check.due("house of abcde", x.house(1, 1, 1), 0);
        for (int k = 0; k < 5; k++) check.due("letter " + k, x.of(0, 10 + k), k);
        check.due("letter 5", x.of(0, 15), FAR);
    }

    private static void house() {
        DoughDebts x = new DoughDebts();
        int[][] wrong = {{-1, 1, 1}, {1000, 1, 1}, {0, 0, 1}, {0, 1000, 1}, {0, 1, 0}, {0, 1, 100},
            {Integer.MIN_VALUE, 1, 1}, {1, Integer.MAX_VALUE, 1}, {1, 1, Integer.MIN_VALUE}};
        for (int[] w : wrong) {
            check.due("wrong house", Check.house(x, w[0], w[1], w[2], "a"), -1);
            check.due("tape behind a wrong house", Check.tapeLength(x), 0);
        }
        for (String mark : new String[] {"", "abcdef", "i", "A", "a b", "`", "ab1"}) {
            check.due("mark '" + mark + "'", Check.house(x, 1, 1, 1, mark), -1);
            check.due("tape behind a wrong mark", Check.tapeLength(x), 0);
        }
        check.due("no houses yet", x.look(0), 0);
        check.due("least house", Check.house(x, 0, 1, 1, "h"), 0);
        check.due("greatest house", Check.house(x, 999, 999, 99, "hgfed"), 1);
        check.due("tape behind a house", Check.tapeLength(x), 0);
        for (int h = 2; h < 9; h++) check.due("house " + h, Check.house(x, h, h, h, "abc"), h);
        check.due("tenth house", Check.house(x, 1, 1, 1, "a"), -1);
        check.due("tape behind the tenth", Check.tapeLength(x), 0);
        check.due("houses", x.look(0), 9);
    }

    private static void give() {
        DoughDebts x = new DoughDebts();
        check.due("give to none", x.give(0, 1), false);
        Check.house(x, 9, 9, 9, "a");
        check.due("give 0", x.give(0, 0), true);
        check.due("give -1", x.give(0, -1), false);
        check.due("give 100000", x.give(0, 100000), false);
        check.due("give to -1", x.give(-1, 1), false);
        check.due("give to 1", x.give(1, 1), false);
        for (int i = 1; i <= 10; i++) check.due("give " + i, x.give(0, 99999), true);
        check.due("dough", x.of(0, 3), 999990);
        check.due("give over 999999", x.give(0, 10), false);
        check.due("give up to 999999", x.give(0, 9), true);
        check.due("dough at most", x.of(0, 3), 999999);
        check.due("give 1 more", x.give(0, 1), false);
        check.due("give 0 more", x.give(0, 0), true);
    }

    private static void set() {
        DoughDebts x = new DoughDebts();
        int[] least = {1, 0, 0, 0};
        int[] most = {99, 99, 99, 100};
        for (int what = 0; what < 4; what++) {
            check.due("set below " + what, x.set(what, least[what] - 1), false);
            check.due("set above " + what, x.set(what, most[what] + 1), false);
            check.due("set least " + what, x.set(what, least[what]), true);
            check.due("look least " + what, x.look(10 + what), least[what]);
            check.due("set most " + what, x.set(what, most[what]), true);
            check.due("look most " + what, x.look(10 + what), most[what]);
        }
        check.due("set 4", x.set(4, 1), false);
        check.due("set -1", x.set(-1, 1), false);
        check.due("set lowest", x.set(Integer.MIN_VALUE, 1), false);
    }

    private static void of() {
        DoughDebts x = new DoughDebts();
        Check.house(x, 90, 50, 10, "abc");
        Check.house(x, 45, 30, 5, "h");
        x.give(0, 100);
        x.days(1);
        x.owe(0, 1, 12);
        int[] first = {90, 50, 10, 10, 90, 5, 1, 1, 0, -12, 0, 1, 2};
        int[] second = {45, 30, 5, 0, 0, 0, 0, 0, 1, 12, 7};
        for (int what = 0; what < first.length; what++) check.due("of 0 " + what, x.of(0, what), first[what]);
        for (int what = 0; what < second.length; what++) check.due("of 1 " + what, x.of(1, what), second[what]);
        check.due("of 0 13", x.of(0, 13), FAR);
        check.due("of 1 11", x.of(1, 11), FAR);
        check.due("of 0 -1", x.of(0, -1), FAR);
        check.due("of 0 lowest", x.of(0, Integer.MIN_VALUE), FAR);
        check.due("of 2 0", x.of(2, 0), FAR);
        check.due("of -1 0", x.of(-1, 0), FAR);
    }
}
