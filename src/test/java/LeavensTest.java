/** Promises 18 to 21: leaven, part, lent, led. */
public final class LeavensTest {
    private static final Check check = new Check();

    public static void main(String[] args) {
        making();
        parts();
        lent();
        led();
        thirtyMixings();
        sixty();
        check.finish("LeavensTest");
    }

    private static DoughDebts withHouses(int count) {
        DoughDebts x = new DoughDebts();
        for (int h = 0; h < count; h++) Check.house(x, 1, 1, 1, "a");
        return x;
    }

    private static void making() {
        DoughDebts x = withHouses(2);
        check.due("mixed of none", x.leaven(0, 0), -1);
        check.due("new of no house", x.leaven(2, -1), -1);
        check.due("new of house -1", x.leaven(-1, -1), -1);
        check.due("new", x.leaven(1, -1), 0);
        check.due("new", x.leaven(0, -1), 1);
        check.due("mixed", x.leaven(0, 1), 2);
        check.due("mixed of one twice", x.leaven(2, 2), 3);
        check.due("mixed of one not yet made", x.leaven(4, 0), -1);
        check.due("mixed of one not yet made", x.leaven(0, 4), -1);
        check.due("mixed of -1", x.leaven(-1, 0), -1);
        check.due("b -2", x.leaven(0, -2), -1);
        check.due("b lowest", x.leaven(0, Integer.MIN_VALUE), -1);
        check.due("leavens", x.look(3), 4);
    }

    private static void part(DoughDebts x, int leaven, int from, int above, int below) {
        check.due("part above " + leaven + " " + from, x.part(leaven, from, 0), above);
        check.due("part below " + leaven + " " + from, x.part(leaven, from, 1), below);
    }

    private static void parts() {
        DoughDebts x = withHouses(2);
        x.leaven(0, -1);
        x.leaven(1, -1);
        x.leaven(0, -1);
        x.leaven(0, 1);
        x.leaven(3, 1);
        x.leaven(4, 3);
        x.leaven(5, 5);
        part(x, 0, 0, 1, 1);
        part(x, 0, 1, 0, 1);
        part(x, 3, 0, 1, 2);
        part(x, 3, 2, 0, 1);
        part(x, 4, 1, 3, 4);
        part(x, 4, 0, 1, 4);
        part(x, 5, 0, 3, 8);
        part(x, 5, 1, 5, 8);
        part(x, 6, 1, 5, 8);
        part(x, 6, 2, 0, 1);
        part(x, 0, 2, 0, 1);
        check.due("from a mixed one", x.part(4, 3, 0), -1);
        check.due("no such leaven", x.part(7, 0, 0), -1);
        check.due("leaven -1", x.part(-1, 0, 0), -1);
        check.due("from no such", x.part(3, 7, 0), -1);
        check.due("from -1", x.part(3, -1, 1), -1);
        check.due("what 2", x.part(3, 0, 2), -1);
        check.due("what -1", x.part(3, 0, -1), -1);
    }

    private static void lentIs(DoughDebts x, int leaven, int... want) {
        for (int what = 0; what < 5; what++) check.due("lent " + leaven + " " + what, x.lent(leaven, what), want[what]);
        check.due("lent what 5", x.lent(leaven, 5), -2);
        check.due("lent what -1", x.lent(leaven, -1), -2);
    }

    private static void lent() {
        DoughDebts x = withHouses(3);
        x.leaven(2, -1);
        x.leaven(0, -1);
        x.leaven(2, -1);
        x.leaven(0, 2);
        x.leaven(3, 1);
        x.leaven(1, 4);
        lentIs(x, 0, 0, 2, -1, -1, 1);
        lentIs(x, 1, 0, 0, -1, -1, 1);
        lentIs(x, 3, 1, -1, 0, 2, 1);
        lentIs(x, 4, 2, -1, 3, 1, 2);
        lentIs(x, 5, 3, -1, 1, 4, 2);
        check.due("no such leaven", x.lent(6, 0), -2);
        check.due("leaven -1", x.lent(-1, 0), -2);
    }

    private static void led() {
        DoughDebts x = withHouses(2);
        x.leaven(0, -1);
        x.leaven(1, -1);
        x.leaven(0, 0);
        x.leaven(2, 1);
        int[][] want = {{1, 0, 0, 0}, {0, 1, 0, 0}, {1, 0, 1, 0}, {1, 1, 1, 1}};
        for (int a = 0; a < 4; a++) {
            for (int b = 0; b < 4; b++) check.due("led " + a + " " + b, x.led(a, b), want[a][b]);
        }
        check.due("led of none", x.led(4, 0), -1);
        check.due("led from none", x.led(0, 4), -1);
        check.due("led -1", x.led(-1, -1), -1);
    }

    private static void thirtyMixings() {
        DoughDebts x = withHouses(2);
        x.leaven(0, -1);
        x.leaven(1, -1);
        int last = x.leaven(0, 1);
        for (int age = 2; age <= 30; age++) last = x.leaven(last, 1);
        check.due("age", x.lent(last, 0), 30);
        part(x, last, 0, 1, 1 << 30);
        part(x, last, 1, (1 << 30) - 1, 1 << 30);
        check.due("31 mixings", x.leaven(last, 1), -1);
        check.due("31 mixings", x.leaven(1, last), -1);
        check.due("not made", x.look(3), last + 1);
        check.due("30 mixings again", x.leaven(last - 1, last - 1), last + 1);
        part(x, last + 1, 0, 1, 1 << 29);
        check.due("led far up", x.led(last, 0), 1);
    }

    private static void sixty() {
        DoughDebts x = withHouses(9);
        for (int i = 0; i < 58; i++) check.due("new " + i, x.leaven(i % 9, -1), i);
        check.due("mixed 58", x.leaven(57, 0), 58);
        check.due("mixed 59", x.leaven(58, 1), 59);
        check.due("new 60", x.leaven(0, -1), -1);
        check.due("mixed 60", x.leaven(0, 1), -1);
        check.due("leavens", x.look(3), 60);
        check.due("led 59 58", x.led(59, 58), 1);
        check.due("led 59 57", x.led(59, 57), 1);
        check.due("led 59 56", x.led(59, 56), 0);
        check.due("led 59 59", x.led(59, 59), 1);
        check.due("led 58 59", x.led(58, 59), 0);
        check.due("houses", x.lent(59, 4), 3);
    }
}
