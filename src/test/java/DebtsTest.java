/** Promises 25 and 26: owe, payments. */
public final class DebtsTest {
    private static final Check check = new Check();

    public static void main(String[] args) {
        owe();
        payments();
        parts();
        check.finish("DebtsTest");
    }

    private static DoughDebts withHouses(int count) {
        DoughDebts x = new DoughDebts();
        for (int h = 0; h < count; h++) Check.house(x, 1, 1, 1, "a");
        return x;
    }

    private static void owe() {
        DoughDebts x = withHouses(2);
        check.due("owe", x.owe(0, 1, 99999), true);
        check.due("owe less", x.owe(0, 1, -99999), true);
        check.due("net", x.of(0, 9), 0);
        check.due("owe 0", x.owe(1, 0, 0), true);
        int[][] wrong = {{0, 0, 1}, {1, 1, 0}, {0, 2, 1}, {2, 0, 1}, {-1, 0, 1}, {0, -1, 1}, {0, 1, 100000},
            {0, 1, -100000}, {0, 1, Integer.MIN_VALUE}, {Integer.MAX_VALUE, 0, 0}};
        for (int[] w : wrong) check.due("wrong owe", x.owe(w[0], w[1], w[2]), false);
        check.due("net stays", x.of(0, 9), 0);
        for (int i = 0; i < 300; i++) x.owe(0, 1, 99999);
        check.due("net far down", x.of(0, 9), -29999700);
        check.due("net far up", x.of(1, 9), 29999700);
        check.due("one payment", x.payments(), 1);
    }

    private static void payments() {
        DoughDebts x = withHouses(4);
        check.due("nothing owed", x.payments(), 0);
        x.owe(0, 1, 10);
        x.owe(1, 2, 10);
        x.owe(2, 0, 10);
        check.due("in a ring", x.payments(), 0);
        x.owe(0, 3, -5);
        check.due("below 0", x.of(3, 9), -5);
        check.due("one", x.payments(), 1);
        x.owe(1, 2, 3);
        check.due("two pairs", x.payments(), 2);
        x.owe(1, 0, 1);
        check.due("all hang together", x.payments(), 3);
    }

    /** Nets by payments to house 8, which itself comes to minus their sum. */
    private static void parts() {
        nets(7, 1, 2, 3, 4, 5, 6, 7, -28);
        nets(8, 1, 2, 3, 4, 5, 6, 7, 8, -36);
        nets(4, 1, -1, 2, -2, 3, -3, 4, -4);
        nets(5, 1, 2, -3, 4, 5, -9, 6, -6);
        nets(6, 1, 2, -3, 3, 4, -7, 10, -6, -4);
        nets(5, 8, -3, -5, 7, -7, 2, 2, -4);
        // The greedy way (greatest to greatest) takes more.
        nets(4, 4, 5, 6, -2, -3, -10);
        nets(3, 6, 3, -2, -4, -3);
    }

    private static void nets(int fewest, int... nets) {
        DoughDebts x = withHouses(nets.length);
        int last = nets.length - 1;
        for (int h = 0; h < last; h++) x.owe(last, h, nets[h]);
        for (int h = 0; h <= last; h++) check.due("net " + h, x.of(h, 9), nets[h]);
        check.due("fewest of " + java.util.Arrays.toString(nets), x.payments(), fewest);
    }
}
