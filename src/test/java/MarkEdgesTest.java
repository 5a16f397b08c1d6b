/** Boundaries of promises 22 to 24: each one at its place, just within it and just beyond it. */
public final class MarkEdgesTest {
    private static final Check check = new Check();
    private static final int LOW = Integer.MIN_VALUE;
    private static final int HIGH = Integer.MAX_VALUE;

    public static void main(String[] args) {
        promise22AtFirst();
        promise22Letters();
        promise22HowMuch();
        promise23House();
        promise23What();
        promise23RowOfLetters();
        promise23AsLongAsIt();
        promise23AllRiseIsNought();
        promise23LowestTerms();
        promise23MostAndLeast();
        promise23TapeIsEmptyThen();
        promise24What();
        promise24RowOfLetters();
        promise24NoHouse();
        promise24OfSeveralTheLeast();
        promise24CloseOdds();
        promise24TapeIsEmptyThen();
        check.finish("MarkEdgesTest");
    }

    private static DoughDebts marked(String... marks) {
        DoughDebts x = new DoughDebts();
        for (String mark : marks) Check.house(x, 1, 1, 1, mark);
        return x;
    }

    private static void odds(String name, DoughDebts x, int house, String seen, long above, long below) {
        check.due(name + ": above of " + house + " as " + seen, Check.odds(x, seen, house, 0), above);
        check.due(name + ": below of " + house + " as " + seen, Check.odds(x, seen, house, 1), below);
    }

    private static void whose(String name, DoughDebts x, String seen, int house, int apart) {
        check.due(name + ": whose " + seen, Check.whose(x, seen, 0), house);
        check.due(name + ": told apart " + seen, Check.whose(x, seen, 1), apart);
    }

    /** Terms 4: RISE is "9 into itself, 0 else, at first", for each of the 64. */
    private static void promise22AtFirst() {
        DoughDebts x = marked("a", "b", "c", "d", "e", "f", "g", "h");
        for (int from = 0; from < 8; from++) {
            for (int to = 0; to < 8; to++) {
                odds("p22 at first", x, from, String.valueOf((char) ('a' + to)), from == to ? 1 : 0, 1);
            }
        }
        // Into itself 9: by 1 into another it is 9 of 10.
        for (int from = 0; from < 8; from++) {
            x.rise(from, (from + 1) % 8, 1);
            odds("p22 nine", x, from, String.valueOf((char) ('a' + from)), 9, 10);
        }
    }

    /** Promise 22: "a letter (0 .. 7) into a letter: true; false if one can't be". */
    private static void promise22Letters() {
        DoughDebts x = marked("a", "h");
        for (int letter : new int[] {LOW, -8, -1, 8, 9, 64, HIGH}) {
            check.due("p22 from " + letter, x.rise(letter, 0, 5), false);
            check.due("p22 into " + letter, x.rise(0, letter, 5), false);
            check.due("p22 into " + letter, x.rise(7, letter, 5), false);
        }
        // -1 and 8 would fall on a neighbour's, if they were taken.
        odds("p22 nothing changed", x, 0, "a", 1, 1);
        odds("p22 nothing changed", x, 1, "h", 1, 1);
        for (int from : new int[] {0, 1, 6, 7}) {
            for (int to : new int[] {0, 1, 6, 7}) check.due("p22 " + from + " into " + to, x.rise(from, to, 1), true);
        }
        odds("p22 four alike", x, 0, "h", 1, 4);
        odds("p22 four alike", x, 1, "a", 1, 4);
        odds("p22 not into c", x, 1, "c", 0, 1);
    }

    /** Promise 22 and Terms 4: "RISE .. 0 .. 9"; what is told takes the place of what was. */
    private static void promise22HowMuch() {
        DoughDebts x = marked("a");
        x.rise(0, 1, 3);
        for (int v : new int[] {LOW, -1, 10, 11, HIGH}) {
            check.due("p22 rise by " + v, x.rise(0, 0, v), false);
            odds("p22 stays 9 of 12", x, 0, "a", 3, 4);
        }
        long[][] want = {{0, 1}, {1, 4}, {2, 5}, {1, 2}, {4, 7}, {5, 8}, {2, 3}, {7, 10}, {8, 11}, {3, 4}};
        for (int v = 0; v <= 9; v++) {
            check.due("p22 rise by " + v, x.rise(0, 0, v), true);
            odds("p22 " + v + " of " + (v + 3), x, 0, "a", want[v][0], want[v][1]);
        }
    }

    /** Promise 23: "ODDS that a HOUSE's MARK .. NONE if one can't be". */
    private static void promise23House() {
        DoughDebts x = marked("ab", "ba");
        for (int house : new int[] {LOW, -1, 2, 3, 9, HIGH}) odds("p23 no house", x, house, "ab", -1, -1);
        odds("p23 first", x, 0, "ab", 1, 1);
        odds("p23 last", x, 1, "ba", 1, 1);
        odds("p23 of no houses", new DoughDebts(), 0, "a", -1, -1);
    }

    /** Promise 23: "or another what". */
    private static void promise23What() {
        DoughDebts x = marked("ab");
        for (int what : new int[] {LOW, -1, 2, 3, HIGH}) {
            check.due("p23 what " + what, Check.odds(x, "ab", 0, what), -1);
        }
    }

    /** Promise 23: NONE by "no row of 1 .. 5 letters a .. h", of all 256 bytes. */
    private static void promise23RowOfLetters() {
        DoughDebts long5 = marked("aaaaa");
        for (int length = 0; length <= 7; length++) {
            boolean row = length >= 1 && length <= 5;
            odds("p23 length", long5, 0, "a".repeat(length), row ? (length == 5 ? 1 : 0) : -1, row ? 1 : -1);
        }
        for (int sign = 0; sign < 256; sign++) {
            DoughDebts x = marked("ah");
            boolean letter = sign >= 'a' && sign <= 'h';
            odds("p23 byte " + sign, x, 0, "a" + (char) sign, letter ? (sign == 'h' ? 1 : 0) : -1, letter ? 1 : -1);
        }
        for (int place = 0; place < 5; place++) {
            StringBuilder seen = new StringBuilder("aaaaa");
            seen.setCharAt(place, 'i');
            odds("p23 i at " + place, long5, 0, seen.toString(), -1, -1);
        }
    }

    /** Terms 4: "(as long as it; else 0)": 0 and 1. */
    private static void promise23AsLongAsIt() {
        DoughDebts x = marked("a", "aa", "aaaa", "aaaaa");
        int[] lengths = {1, 2, 4, 5};
        for (int house = 0; house < 4; house++) {
            for (int length = 1; length <= 5; length++) {
                odds("p23 as long", x, house, "a".repeat(length), length == lengths[house] ? 1 : 0, 1);
            }
        }
    }

    /** Terms 4: "(0 if these are 0)", and with one letter so the whole is 0. */
    private static void promise23AllRiseIsNought() {
        DoughDebts x = marked("ab", "b");
        x.rise(0, 0, 0);
        for (String seen : new String[] {"ab", "bb", "hb", "aa"}) odds("p23 a rises into nothing", x, 0, seen, 0, 1);
        odds("p23 b still does", x, 1, "b", 1, 1);
        x.rise(0, 7, 1);
        odds("p23 a rises into h alone", x, 0, "hb", 1, 1);
        odds("p23 not into a", x, 0, "ab", 0, 1);
    }

    /** Terms 4: "a fraction in lowest terms (0 and 1)". */
    private static void promise23LowestTerms() {
        DoughDebts x = marked("ab", "aab");
        x.rise(0, 1, 6);
        x.rise(1, 0, 3);
        // a: 9 and 6 of 15. b: 9 and 3 of 12.
        odds("p23 terms", x, 0, "ab", 9, 20);
        odds("p23 terms", x, 0, "bb", 3, 10);
        odds("p23 terms", x, 0, "ba", 1, 10);
        odds("p23 terms", x, 1, "aba", 3, 50);
        odds("p23 terms", x, 0, "ca", 0, 1);
        odds("p23 terms", x, 1, "abc", 0, 1);
    }

    /** Terms 4: five letters, each of whose RISES are 9: 1 of 8 each; and the greatest below in lowest terms. */
    private static void promise23MostAndLeast() {
        DoughDebts x = marked("aaaaa");
        for (int to = 0; to < 8; to++) x.rise(0, to, 9);
        odds("p23 one of 32768", x, 0, "abcde", 1, 32768);
        x.rise(0, 0, 8);
        long all = 71L * 71 * 71 * 71 * 71;
        odds("p23 8 of 71", x, 0, "aaaaa", 32768, all);
        odds("p23 9 of 71", x, 0, "hhhhh", 59049, all);
        x.rise(0, 1, 8);
        odds("p23 1 of 70", x, 0, "aaaaa", 1024, 52521875);
        x.rise(0, 7, 1);
        odds("p23 1 of 62", x, 0, "hhhhh", 1, 62L * 62 * 62 * 62 * 62);
    }

    /** Promise 23: "the TAPE (empty then)", whatever is answered. */
    private static void promise23TapeIsEmptyThen() {
        DoughDebts x = marked("ab");
        Check.odds(x, "ab", 0, 0);
        check.due("p23 tape behind odds", Check.tapeLength(x), 0);
        Check.odds(x, "ab", 1, 0);
        check.due("p23 tape behind no house", Check.tapeLength(x), 0);
        Check.odds(x, "ab", 0, 2);
        check.due("p23 tape behind another what", Check.tapeLength(x), 0);
        Check.odds(x, "abcdefgh", 0, 0);
        check.due("p23 tape behind no row", Check.tapeLength(x), 0);
        check.due("p23 no row is left", x.odds(0, 0), -1);
    }

    /** Promise 24: "NONE - 1 .. another what". */
    private static void promise24What() {
        DoughDebts x = marked("ab");
        for (int what : new int[] {LOW, -1, 2, 3, HIGH}) check.due("p24 what " + what, Check.whose(x, "ab", what), -2);
        whose("p24 what 0 and 1", x, "ab", 0, 1);
    }

    /** Promise 24: "NONE - 1 if the TAPE is no such row", NONE if it is one of nobody's. */
    private static void promise24RowOfLetters() {
        DoughDebts x = marked("aaaaa", "a");
        for (int length = 0; length <= 7; length++) {
            int house = length < 1 || length > 5 ? -2 : length == 5 ? 0 : length == 1 ? 1 : -1;
            whose("p24 length " + length, x, "a".repeat(length), house, house == -2 ? -2 : house == -1 ? 0 : 1);
        }
        for (int sign = 0; sign < 256; sign++) {
            DoughDebts y = marked("h");
            int house = sign < 'a' || sign > 'h' ? -2 : sign == 'h' ? 0 : -1;
            whose("p24 byte " + sign, y, String.valueOf((char) sign), house, house == -2 ? -2 : house == -1 ? 0 : 1);
        }
    }

    /** Terms 4: "the HOUSE with the greatest ODDS (above 0)": with none above 0 there is none. */
    private static void promise24NoHouse() {
        whose("p24 no houses", new DoughDebts(), "a", -1, 0);
        DoughDebts x = marked("a", "a");
        whose("p24 nobody's", x, "b", -1, 0);
        x.rise(0, 1, 1);
        whose("p24 two alike", x, "b", 0, 0);
        x.rise(0, 1, 0);
        x.rise(0, 0, 0);
        whose("p24 a rises into nothing", x, "a", -1, 0);
    }

    /** Terms 4: "of several the least; TOLD APART, if it is the only one with them". */
    private static void promise24OfSeveralTheLeast() {
        DoughDebts x = marked("b", "a", "c", "a", "d");
        whose("p24 two alike", x, "a", 1, 0);
        whose("p24 the only one", x, "d", 4, 1);
        whose("p24 the first", x, "b", 0, 1);
        // c as a with 9 of 18: less than a's, so those two stay alike.
        x.rise(2, 0, 9);
        whose("p24 a lesser one doesn't count", x, "a", 1, 0);
        x.rise(0, 7, 1);
        // Now a's are 9 of 10; d becomes a always.
        x.rise(3, 3, 0);
        x.rise(3, 0, 4);
        whose("p24 the last is greatest", x, "a", 4, 1);
        x.rise(0, 7, 0);
        whose("p24 three alike", x, "a", 1, 0);
        DoughDebts nine = marked("a", "a", "a", "a", "a", "a", "a", "a", "a");
        whose("p24 nine alike", nine, "a", 0, 0);
    }

    /** Terms 4: ODDS are fractions: those just apart are apart, and those alike in other terms are alike. */
    private static void promise24CloseOdds() {
        DoughDebts x = marked("aaaaa", "bbbbb");
        for (int to = 0; to < 8; to++) {
            x.rise(0, to, 9);
            x.rise(1, to, 9);
        }
        whose("p24 alike", x, "ccccc", 0, 0);
        x.rise(0, 0, 8);
        // 9 of 71 is a little more than 9 of 72.
        whose("p24 a is a little more", x, "ccccc", 0, 1);
        x.rise(1, 0, 7);
        // 9 of 70 is a little more than 9 of 71.
        whose("p24 b is a little more", x, "ccccc", 1, 1);
        DoughDebts y = marked("a", "b");
        y.rise(0, 2, 9);
        y.rise(1, 1, 4);
        y.rise(1, 2, 4);
        whose("p24 9 of 18 and 4 of 8", y, "c", 0, 0);
        y.rise(1, 1, 3);
        whose("p24 9 of 18 and 4 of 7", y, "c", 1, 1);
        y.rise(1, 1, 5);
        whose("p24 9 of 18 and 4 of 9", y, "c", 0, 1);
    }

    /** Promise 24: "the TAPE (empty then)", whatever is answered. */
    private static void promise24TapeIsEmptyThen() {
        DoughDebts x = marked("ab");
        Check.whose(x, "ab", 0);
        check.due("p24 tape behind whose", Check.tapeLength(x), 0);
        Check.whose(x, "ab", 2);
        check.due("p24 tape behind another what", Check.tapeLength(x), 0);
        Check.whose(x, "abcdefgh", 0);
        check.due("p24 tape behind no row", Check.tapeLength(x), 0);
        check.due("p24 no row is left", x.whose(0), -2);
    }
}
