/** Boundaries of promises 18 to 21: each one at its place, just within it and just beyond it. */
public final class LeavenEdgesTest {
    private static final Check check = new Check();
    private static final int LOW = Integer.MIN_VALUE;
    private static final int HIGH = Integer.MAX_VALUE;

    public static void main(String[] args) {
        promise18NewOfAHouse();
        promise18MixedOfLeavens();
        promise18Sixty();
        promise18ThirtyMixings();
        promise18LongestWayCounts();
        promise19Leaven();
        promise19From();
        promise19What();
        promise19NoneIsNoughtAndOne();
        promise19LowestTerms();
        promise20Leaven();
        promise20What();
        promise20Age();
        promise20Houses();
        promise21Itself();
        promise21Beyond();
        promise21FarUp();
        check.finish("LeavenEdgesTest");
    }

    private static DoughDebts withHouses(int count) {
        DoughDebts x = new DoughDebts();
        for (int h = 0; h < count; h++) Check.house(x, 1, 1, 1, "a");
        return x;
    }

    /** Promise 18: "NEW of a HOUSE (b NONE) .. NONE if one can't be". */
    private static void promise18NewOfAHouse() {
        DoughDebts x = withHouses(2);
        for (int house : new int[] {LOW, -1, 2, 3, HIGH}) check.due("p18 new of " + house, x.leaven(house, -1), -1);
        check.due("p18 none yet", x.look(3), 0);
        check.due("p18 new of the last", x.leaven(1, -1), 0);
        check.due("p18 new of the first", x.leaven(0, -1), 1);
        check.due("p18 another of the first", x.leaven(0, -1), 2);
        check.due("p18 its house", x.lent(0, 1), 1);
        check.due("p18 three", x.look(3), 3);
    }

    /** Promise 18: "MIXED of LEAVENS a and b", both of which must be there. */
    private static void promise18MixedOfLeavens() {
        DoughDebts x = withHouses(5);
        check.due("p18 mixed of none", x.leaven(0, 0), -1);
        x.leaven(0, -1);
        x.leaven(1, -1);
        int[][] wrong = {{2, 0}, {0, 2}, {2, 2}, {-1, 0}, {-1, 1}, {0, -2}, {-2, 0}, {LOW, 0}, {0, LOW}, {HIGH, 1},
            {1, HIGH}, {60, 0}, {0, 60}};
        for (int[] w : wrong) check.due("p18 mixed of " + w[0] + " " + w[1], x.leaven(w[0], w[1]), -1);
        check.due("p18 still two", x.look(3), 2);
        check.due("p18 first and last", x.leaven(0, 1), 2);
        check.due("p18 of one twice", x.leaven(2, 2), 3);
        check.due("p18 of the one just made", x.leaven(3, 3), 4);
        check.due("p18 not of itself", x.leaven(5, 4), -1);
    }

    /** Promise 18 and Terms 4: "LEAVENS 0 .. 59", NONE "if .. there are sixty". */
    private static void promise18Sixty() {
        DoughDebts x = withHouses(1);
        for (int k = 0; k < 59; k++) check.due("p18 leaven " + k, x.leaven(0, -1), k);
        x.image(true);
        check.due("p18 the sixtieth, new", x.leaven(0, -1), 59);
        check.due("p18 one more, new", x.leaven(0, -1), -1);
        check.due("p18 one more, mixed", x.leaven(0, 59), -1);
        check.due("p18 sixty", x.look(3), 60);
        x.image(false);
        check.due("p18 fifty-nine again", x.look(3), 59);
        check.due("p18 the sixtieth, mixed", x.leaven(57, 58), 59);
        check.due("p18 one more, mixed", x.leaven(0, 0), -1);
        check.due("p18 one more, new", x.leaven(0, -1), -1);
        check.due("p18 sixty again", x.look(3), 60);
        check.due("p18 part", x.part(59, 57, 1), 2);
        check.due("p18 part of another", x.part(59, 56, 0), 0);
    }

    /** A chain in which leaven k + 1 has k mixings: 0 and 1 are NEW, then each of the latest and 1. */
    private static DoughDebts chain(int mixings) {
        DoughDebts x = withHouses(2);
        x.leaven(0, -1);
        x.leaven(1, -1);
        x.leaven(0, 1);
        for (int k = 2; k <= mixings; k++) x.leaven(k, 1);
        return x;
    }

    /** Terms 4: "at most 30 mixings from it up to any NEW one: else it can't be mixed". */
    private static void promise18ThirtyMixings() {
        DoughDebts x = chain(29);
        check.due("p18 29 mixings", x.lent(30, 0), 29);
        check.due("p18 the 30th", x.leaven(30, 1), 31);
        check.due("p18 30 mixings", x.lent(31, 0), 30);
        check.due("p18 the 31st", x.leaven(31, 1), -1);
        check.due("p18 the 31st, of one twice", x.leaven(31, 31), -1);
        check.due("p18 the 31st, told the other way", x.leaven(1, 31), -1);
        check.due("p18 none came", x.look(3), 32);
        check.due("p18 another 30th", x.leaven(30, 30), 32);
        check.due("p18 and a 30th of those at 29 and 28", x.leaven(29, 30), 33);
        check.due("p18 its mixings", x.lent(33, 0), 30);
        check.due("p18 a new one still comes", x.leaven(0, -1), 34);
    }

    /** Terms 4: up "to any NEW one": the longest way counts, though another one is short. */
    private static void promise18LongestWayCounts() {
        DoughDebts x = chain(30);
        check.due("p18 of 30 and of a new one", x.leaven(31, 0), -1);
        check.due("p18 of a new one and of 30", x.leaven(0, 31), -1);
        check.due("p18 of 29 and of a new one", x.leaven(30, 0), 32);
        check.due("p18 30 by its longest way", x.lent(32, 0), 30);
        check.due("p18 of that one", x.leaven(32, 0), -1);
    }

    /** Promise 19: "NONE if one can't be". */
    private static void promise19Leaven() {
        DoughDebts x = chain(2);
        for (int leaven : new int[] {LOW, -1, 4, 5, 60, HIGH}) {
            check.due("p19 part of " + leaven, x.part(leaven, 0, 0), -1);
            check.due("p19 below of " + leaven, x.part(leaven, 0, 1), -1);
        }
        check.due("p19 of the first", x.part(0, 0, 0), 1);
        check.due("p19 of the last", x.part(3, 1, 0), 3);
        check.due("p19 below", x.part(3, 1, 1), 4);
    }

    /** Promise 19: "from a NEW one .. NONE if one can't be (it is not NEW)". */
    private static void promise19From() {
        DoughDebts x = chain(2);
        for (int from : new int[] {LOW, -1, 2, 3, 4, 60, HIGH}) {
            check.due("p19 part from " + from, x.part(3, from, 0), -1);
            check.due("p19 below from " + from, x.part(3, from, 1), -1);
        }
        check.due("p19 mixed from itself", x.part(2, 2, 0), -1);
        check.due("p19 new from a mixed one", x.part(0, 2, 0), -1);
        check.due("p19 from the first", x.part(3, 0, 1), 4);
        check.due("p19 from the second", x.part(2, 1, 1), 2);
    }

    /** Promise 19: "or another what". */
    private static void promise19What() {
        DoughDebts x = chain(2);
        for (int what : new int[] {LOW, -1, 2, 3, HIGH}) check.due("p19 what " + what, x.part(3, 0, what), -1);
    }

    /** Terms 4: "0 and 1 if none". */
    private static void promise19NoneIsNoughtAndOne() {
        DoughDebts x = chain(30);
        x.leaven(0, -1);
        for (int leaven : new int[] {0, 1, 2, 31}) {
            check.due("p19 none above of " + leaven, x.part(leaven, 32, 0), 0);
            check.due("p19 none below of " + leaven, x.part(leaven, 32, 1), 1);
        }
        check.due("p19 none of the other new one", x.part(0, 1, 0), 0);
        check.due("p19 none of the other new one, below", x.part(0, 1, 1), 1);
        check.due("p19 itself above", x.part(32, 32, 0), 1);
        check.due("p19 itself below", x.part(32, 32, 1), 1);
    }

    /** Terms 4: "a fraction in lowest terms", from a whole down to the 30th half of one. */
    private static void promise19LowestTerms() {
        DoughDebts x = chain(30);
        for (int mixings = 1; mixings <= 30; mixings++) {
            int below = 1 << mixings;
            check.due("p19 above from 0", x.part(mixings + 1, 0, 0), 1);
            check.due("p19 below from 0", x.part(mixings + 1, 0, 1), below);
            check.due("p19 above from 1", x.part(mixings + 1, 1, 0), below - 1);
            check.due("p19 below from 1", x.part(mixings + 1, 1, 1), below);
        }
        DoughDebts y = withHouses(1);
        y.leaven(0, -1);
        for (int k = 0; k < 30; k++) y.leaven(k, k);
        check.due("p19 a whole, above", y.part(30, 0, 0), 1);
        check.due("p19 a whole, below", y.part(30, 0, 1), 1);
        y.leaven(0, -1);
        y.leaven(31, 0);
        y.leaven(32, 1);
        check.due("p19 three of four, above", y.part(33, 0, 0), 3);
        check.due("p19 three of four, below", y.part(33, 0, 1), 4);
        y.leaven(33, 32);
        y.leaven(34, 33);
        check.due("p19 eleven of sixteen, above", y.part(35, 0, 0), 11);
        check.due("p19 eleven of sixteen, below", y.part(35, 0, 1), 16);
        check.due("p19 five of eight, above", y.part(34, 0, 0), 5);
        check.due("p19 five of eight, below", y.part(34, 0, 1), 8);
    }

    /** Promise 20: "NONE - 1 if there is none such". */
    private static void promise20Leaven() {
        DoughDebts x = chain(2);
        for (int leaven : new int[] {LOW, -1, 4, 5, 60, HIGH}) {
            for (int what = -1; what <= 5; what++) check.due("p20 of " + leaven, x.lent(leaven, what), -2);
        }
        check.due("p20 of none at all", withHouses(1).lent(0, 0), -2);
    }

    /** Promise 20: "or another what"; NONE itself is an answer. */
    private static void promise20What() {
        DoughDebts x = chain(2);
        for (int leaven = 0; leaven < 4; leaven++) {
            for (int what : new int[] {LOW, -1, 5, 6, HIGH}) check.due("p20 what " + what, x.lent(leaven, what), -2);
        }
        int[][] want = {{0, 0, -1, -1, 1}, {0, 1, -1, -1, 1}, {1, -1, 0, 1, 2}, {2, -1, 2, 1, 2}};
        for (int leaven = 0; leaven < 4; leaven++) {
            for (int what = 0; what < 5; what++) check.due("p20 lent", x.lent(leaven, what), want[leaven][what]);
        }
    }

    /** Terms 4: "AGE: the greatest number of mixings up to a NEW one": 0, 1 .. 30. */
    private static void promise20Age() {
        DoughDebts x = chain(30);
        check.due("p20 age of a new one", x.lent(0, 0), 0);
        for (int mixings = 1; mixings <= 30; mixings++) check.due("p20 age", x.lent(mixings + 1, 0), mixings);
        x.leaven(2, 5);
        check.due("p20 the greater of 1 and 4, and one more", x.lent(32, 0), 5);
        x.leaven(5, 2);
        check.due("p20 told the other way", x.lent(33, 0), 5);
        check.due("p20 of the first", x.lent(33, 2), 5);
        check.due("p20 of the second", x.lent(33, 3), 2);
    }

    /** Promise 20: "of how many HOUSES' NEW ones it is led": 1 .. 9, several NEW ones of a HOUSE count once. */
    private static void promise20Houses() {
        DoughDebts x = withHouses(9);
        for (int h = 0; h < 9; h++) x.leaven(h, -1);
        int last = 0;
        for (int h = 1; h < 9; h++) {
            last = x.leaven(last, h);
            check.due("p20 houses", x.lent(last, 4), h + 1);
        }
        check.due("p20 two leavens of one house", x.lent(x.leaven(x.leaven(8, -1), 8), 4), 1);
        check.due("p20 one twice", x.lent(x.leaven(3, 3), 4), 1);
        check.due("p20 all nine, and one again", x.lent(x.leaven(last, 0), 4), 9);
    }

    /** Terms 4: "a is led from b, if it is b". */
    private static void promise21Itself() {
        DoughDebts x = chain(2);
        for (int a = 0; a < 4; a++) check.due("p21 itself " + a, x.led(a, a), 1);
        check.due("p21 a new one from another", x.led(0, 1), 0);
        check.due("p21 from what it was mixed of", x.led(2, 0), 1);
        check.due("p21 not the other way", x.led(0, 2), 0);
        check.due("p21 over two", x.led(3, 0), 1);
    }

    /** Promise 21: "NONE if one can't be". */
    private static void promise21Beyond() {
        DoughDebts x = chain(2);
        for (int v : new int[] {LOW, -1, 4, 5, 60, 64, HIGH}) {
            check.due("p21 led of " + v, x.led(v, 0), -1);
            check.due("p21 led from " + v, x.led(0, v), -1);
            check.due("p21 led of and from " + v, x.led(v, v), -1);
        }
        check.due("p21 last", x.led(3, 3), 1);
    }

    /** Promise 21: up to the sixtieth. */
    private static void promise21FarUp() {
        DoughDebts x = withHouses(1);
        for (int k = 0; k < 59; k++) x.leaven(0, -1);
        x.leaven(58, 31);
        for (int b = 0; b < 60; b++) check.due("p21 59 from " + b, x.led(59, b), b == 59 || b == 58 || b == 31 ? 1 : 0);
        for (int a = 0; a < 59; a++) check.due("p21 " + a + " from 59", x.led(a, 59), 0);
        DoughDebts y = chain(30);
        for (int b = 0; b < 32; b++) check.due("p21 of 30 mixings from " + b, y.led(31, b), 1);
    }
}
