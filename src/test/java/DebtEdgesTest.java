/** Boundaries of promises 25 and 26: each one at its place, just within it and just beyond it. */
public final class DebtEdgesTest {
    private static final Check check = new Check();
    private static final int LOW = Integer.MIN_VALUE;
    private static final int HIGH = Integer.MAX_VALUE;

    public static void main(String[] args) {
        promise25HowMuch();
        promise25Houses();
        promise25TheSame();
        promise25Anywhere();
        promise26NoHouses();
        promise26NetsOfNought();
        promise26OneLessThanThoseInAPart();
        promise26UpToEight();
        promise26PartsByOne();
        promise26AllSmallNets();
        check.finish("DebtEdgesTest");
    }

    private static DoughDebts withHouses(int count) {
        DoughDebts x = new DoughDebts();
        for (int h = 0; h < count; h++) Check.house(x, 1, 1, 1, "a");
        return x;
    }

    /** The last HOUSE owes to each other one what is its net, so that the last net is what is left. */
    private static DoughDebts withNets(int... nets) {
        DoughDebts x = withHouses(nets.length);
        int last = nets.length - 1;
        for (int h = 0; h < last; h++) x.owe(last, h, nets[h]);
        return x;
    }

    private static void fewest(int payments, int... nets) {
        DoughDebts x = withNets(nets);
        for (int h = 0; h < nets.length; h++) check.due("p26 net of " + h, x.of(h, 9), nets[h]);
        check.due("p26 fewest of " + java.util.Arrays.toString(nets), x.payments(), payments);
    }

    /** Promise 25 and Terms 4: "-99999 .. 99999 told more at a time". */
    private static void promise25HowMuch() {
        for (int v : new int[] {LOW, -100000, -99999, -99998, -1, 0, 1, 99998, 99999, 100000, HIGH}) {
            DoughDebts x = withHouses(2);
            boolean good = v >= -99999 && v <= 99999;
            check.due("p25 owe " + v, x.owe(0, 1, v), good);
            check.due("p25 net of who owes", x.of(0, 9), good ? -v : 0);
            check.due("p25 net of the other", x.of(1, 9), good ? v : 0);
            check.due("p25 payments", x.payments(), good && v != 0 ? 1 : 0);
        }
    }

    /** Promise 25: "false if one can't be". */
    private static void promise25Houses() {
        DoughDebts x = withHouses(3);
        for (int house : new int[] {LOW, -1, 3, 4, 9, HIGH}) {
            check.due("p25 by " + house, x.owe(house, 0, 1), false);
            check.due("p25 to " + house, x.owe(0, house, 1), false);
        }
        for (int h = 0; h < 3; h++) check.due("p25 nothing owed", x.of(h, 9), 0);
        check.due("p25 first to last", x.owe(0, 2, 4), true);
        check.due("p25 last to first", x.owe(2, 0, 1), true);
        check.due("p25 net of the first", x.of(0, 9), -3);
        check.due("p25 net of the middle", x.of(1, 9), 0);
        check.due("p25 net of the last", x.of(2, 9), 3);
    }

    /** Promise 25: "false if one can't be (the same)". */
    private static void promise25TheSame() {
        DoughDebts x = withHouses(2);
        for (int h = -1; h <= 2; h++) {
            check.due("p25 to itself " + h, x.owe(h, h, 1), false);
            check.due("p25 0 to itself " + h, x.owe(h, h, 0), false);
        }
        check.due("p25 net", x.of(0, 9), 0);
    }

    /** Terms 4: "they may go anywhere": far above 99999 and below 0. */
    private static void promise25Anywhere() {
        DoughDebts x = withHouses(2);
        for (int i = 0; i < 200; i++) check.due("p25 more", x.owe(0, 1, 99999), true);
        check.due("p25 far down", x.of(0, 9), -19999800);
        check.due("p25 far up", x.of(1, 9), 19999800);
        DoughDebts y = withHouses(2);
        for (int i = 0; i < 200; i++) check.due("p25 less", y.owe(0, 1, -99999), true);
        check.due("p25 below 0", y.of(0, 9), 19999800);
        check.due("p25 one payment settles it", y.payments(), 1);
        for (int i = 0; i < 200; i++) y.owe(0, 1, 99999);
        check.due("p25 settled", y.of(0, 9), 0);
        check.due("p25 no payment", y.payments(), 0);
    }

    /** Promise 26: without HOUSES, with one, with two. */
    private static void promise26NoHouses() {
        check.due("p26 no houses", withHouses(0).payments(), 0);
        check.due("p26 one house", withHouses(1).payments(), 0);
        check.due("p26 two houses", withHouses(2).payments(), 0);
        check.due("p26 nine houses", withHouses(9).payments(), 0);
    }

    /** Terms 4: NETS are settled, not each DEBT: a ring of debts, or one there and back, wants none. */
    private static void promise26NetsOfNought() {
        DoughDebts x = withHouses(3);
        x.owe(0, 1, 5);
        check.due("p26 one debt", x.payments(), 1);
        x.owe(1, 0, 5);
        check.due("p26 there and back", x.payments(), 0);
        x.owe(0, 1, 5);
        x.owe(1, 2, 5);
        check.due("p26 through the middle one", x.payments(), 1);
        x.owe(2, 0, 4);
        check.due("p26 nearly a ring", x.payments(), 1);
        x.owe(2, 0, 1);
        check.due("p26 a ring", x.payments(), 0);
    }

    /** Terms 4: k NETS of which no lesser part settles itself want k - 1 payments. */
    private static void promise26OneLessThanThoseInAPart() {
        fewest(1, 5, -5);
        fewest(2, 2, 3, -5);
        fewest(2, 5, -5, 3, -3);
        fewest(3, 5, -4, 2, -3);
        fewest(3, 1, 1, 1, -3);
        fewest(2, 1, 0, 1, 0, 0, -2);
    }

    /** Promise 26: at most one less than there are HOUSES, 8. */
    private static void promise26UpToEight() {
        fewest(8, 1, 2, 4, 8, 16, 32, 64, 128, -255);
        fewest(7, 1, 2, 4, 8, 16, 32, 64, 0, -127);
        fewest(7, 1, -1, 2, 4, 8, 16, 32, 64, -126);
        fewest(4, 1, -1, 2, -2, 4, -4, 8, 0, -8);
        fewest(5, 1, -1, 2, -2, 4, -4, 8, 1, -9);
        fewest(8, -1, -2, -4, -8, -16, -32, -64, -128, 255);
        fewest(8, 99999, 99998, 99996, 99992, 99984, 99968, 99936, 99872, -799745);
    }

    /** Terms 4: by 1 more or less a part settles itself no more. */
    private static void promise26PartsByOne() {
        fewest(6, 1, 2, -3, 10, 20, -30, 100, 200, -300);
        fewest(7, 1, 2, -3, 10, 20, -31, 100, 201, -300);
        fewest(8, 1, 2, -4, 10, 20, -35, 100, 206, -300);
        // The greatest of one side does not pay the greatest of the other here.
        fewest(4, 4, 5, 6, -2, -3, -10);
        fewest(5, 7, 2, 2, 2, -6, -3, -4);
        fewest(6, 7, 2, 2, 2, -5, -5, -3);
    }

    /** Each three small nets and a fourth: as many payments as a look at all parts tells. */
    private static void promise26AllSmallNets() {
        for (int a = -2; a <= 2; a++) {
            for (int b = -2; b <= 2; b++) {
                for (int c = -2; c <= 2; c++) {
                    int d = -a - b - c;
                    int open = (a != 0 ? 1 : 0) + (b != 0 ? 1 : 0) + (c != 0 ? 1 : 0) + (d != 0 ? 1 : 0);
                    boolean pairs = open == 4 && (a + b == 0 || a + c == 0 || a + d == 0);
                    fewest(open == 0 ? 0 : pairs ? 2 : open - 1, a, b, c, d);
                }
            }
        }
    }
}
