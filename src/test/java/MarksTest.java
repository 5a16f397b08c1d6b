/** Promises 22 to 24: rise, odds, whose. */
public final class MarksTest {
    private static final Check check = new Check();

    public static void main(String[] args) {
        rise();
        odds();
        wrongRows();
        greatest();
        whose();
        check.finish("MarksTest");
    }

    private static void rise() {
        DoughDebts x = new DoughDebts();
        check.due("rise", x.rise(0, 0, 0), true);
        check.due("rise most", x.rise(7, 7, 9), true);
        int[][] wrong = {{-1, 0, 1}, {8, 0, 1}, {0, -1, 1}, {0, 8, 1}, {0, 0, -1}, {0, 0, 10},
            {Integer.MIN_VALUE, 0, 0}, {0, Integer.MAX_VALUE, 0}, {0, 0, Integer.MIN_VALUE}};
        for (int[] w : wrong) check.due("wrong rise", x.rise(w[0], w[1], w[2]), false);
    }

    private static void oddsAre(DoughDebts x, int house, String seen, long above, long below) {
        check.due("odds above of " + house + " as " + seen, Check.odds(x, seen, house, 0), above);
        check.due("odds below of " + house + " as " + seen, Check.odds(x, seen, house, 1), below);
        check.due("tape behind", Check.tapeLength(x), 0);
    }

    private static void odds() {
        DoughDebts x = new DoughDebts();
        Check.house(x, 1, 1, 1, "ab");
        Check.house(x, 1, 1, 1, "aab");
        oddsAre(x, 0, "ab", 1, 1);
        oddsAre(x, 0, "ba", 0, 1);
        oddsAre(x, 0, "a", 0, 1);
        oddsAre(x, 0, "abb", 0, 1);
        x.rise(0, 2, 3);
        // a: 9 into a, 3 into c.
        oddsAre(x, 0, "ab", 3, 4);
        oddsAre(x, 0, "cb", 1, 4);
        oddsAre(x, 1, "acb", 3, 16);
        x.rise(1, 7, 6);
        // b: 9 into b, 6 into h.
        oddsAre(x, 1, "cch", 1, 40);
        x.rise(1, 1, 0);
        oddsAre(x, 1, "aah", 9, 16);
        x.rise(1, 7, 0);
        oddsAre(x, 1, "aab", 0, 1);
        oddsAre(x, 1, "aah", 0, 1);
    }

    private static void wrongRows() {
        DoughDebts x = new DoughDebts();
        Check.house(x, 1, 1, 1, "ab");
        for (String seen : new String[] {"", "abcdef", "ai", "A", "a "}) {
            oddsAre(x, 0, seen, -1, -1);
            check.due("whose 0 " + seen, Check.whose(x, seen, 0), -2);
            check.due("tape behind", Check.tapeLength(x), 0);
            check.due("whose 1 " + seen, Check.whose(x, seen, 1), -2);
        }
        oddsAre(x, 1, "ab", -1, -1);
        oddsAre(x, -1, "ab", -1, -1);
        check.due("odds what 2", Check.odds(x, "ab", 0, 2), -1);
        check.due("tape behind", Check.tapeLength(x), 0);
        check.due("odds what -1", Check.odds(x, "ab", 0, -1), -1);
        check.due("whose what 2", Check.whose(x, "ab", 2), -2);
        check.due("tape behind", Check.tapeLength(x), 0);
        check.due("whose what -1", Check.whose(x, "ab", -1), -2);
    }

    /** Below there may be more than an int holds. */
    private static void greatest() {
        DoughDebts x = new DoughDebts();
        Check.house(x, 1, 1, 1, "aaaaa");
        for (int to = 0; to < 8; to++) x.rise(0, to, 9);
        x.rise(0, 0, 7);
        oddsAre(x, 0, "aaaaa", 1, 100000);
        x.rise(0, 0, 8);
        oddsAre(x, 0, "aaaaa", 32768, 71L * 71 * 71 * 71 * 71);
        oddsAre(x, 0, "bbbbb", 59049, 71L * 71 * 71 * 71 * 71);
    }

    private static void whoseIs(DoughDebts x, String seen, int house, int apart) {
        check.due("whose " + seen, Check.whose(x, seen, 0), house);
        check.due("told apart " + seen, Check.whose(x, seen, 1), apart);
        check.due("tape behind", Check.tapeLength(x), 0);
    }

    private static void whose() {
        DoughDebts x = new DoughDebts();
        whoseIs(x, "a", -1, 0);
        Check.house(x, 1, 1, 1, "ab");
        Check.house(x, 1, 1, 1, "cb");
        Check.house(x, 1, 1, 1, "ab");
        Check.house(x, 1, 1, 1, "a");
        whoseIs(x, "cb", 1, 1);
        whoseIs(x, "ab", 0, 0);
        whoseIs(x, "a", 3, 1);
        whoseIs(x, "h", -1, 0);
        whoseIs(x, "abc", -1, 0);
        x.rise(0, 2, 9);
        // ab is seen as cb as often as not, cb always.
        whoseIs(x, "cb", 1, 1);
        x.rise(2, 0, 6);
        // cb as cb by 9 of 15.
        whoseIs(x, "cb", 1, 1);
        x.rise(2, 0, 9);
        whoseIs(x, "cb", 0, 0);
        x.rise(2, 1, 1);
        whoseIs(x, "cb", 0, 0);
        // 2 of 4 is as much as 9 of 18, though written otherwise.
        x.rise(2, 2, 2);
        x.rise(2, 0, 2);
        x.rise(2, 1, 0);
        whoseIs(x, "cb", 0, 0);
        x.rise(2, 2, 3);
        whoseIs(x, "cb", 1, 1);
        // Letters that rise into nothing make no one's mark.
        for (int to = 0; to < 8; to++) x.rise(0, to, 0);
        whoseIs(x, "cb", 1, 1);
        whoseIs(x, "a", -1, 0);
    }
}
