/** Boundaries of promises 1 to 7 and 12: each one at its place, just within it and just beyond it. */
public final class HouseEdgesTest {
    private static final Check check = new Check();
    private static final int FAR = -1000000000;
    private static final int LOW = Integer.MIN_VALUE;
    private static final int HIGH = Integer.MAX_VALUE;

    public static void main(String[] args) {
        promise1NoHouses();
        promise1NothingIsShared();
        promise2WhatItWas();
        promise3AtMost400();
        promise3NothingComes();
        promise3HighestByteFirst();
        promise4NotSoMany();
        promise4FirstBytesAlone();
        promise5Size();
        promise5Need();
        promise5Minutes();
        promise5LettersOfMark();
        promise5LengthOfMark();
        promise5TapeIsEmptyThen();
        promise5Nine();
        promise5LateHouse();
        promise6Amount();
        promise6House();
        promise6AtHand();
        promise7Ranges();
        promise7OtherWhat();
        promise12House();
        promise12What();
        check.finish("HouseEdgesTest");
    }

    private static DoughDebts withHouses(int count) {
        DoughDebts x = new DoughDebts();
        for (int h = 0; h < count; h++) Check.house(x, 10, 10, 1, "abc");
        return x;
    }

    /** Promise 1: "No houses." */
    private static void promise1NoHouses() {
        DoughDebts x = new DoughDebts();
        check.due("p1 houses", x.look(0), 0);
        for (int what = -1; what < 16; what++) check.due("p1 of(0, " + what + ")", x.of(0, what), FAR);
        check.due("p1 order(0)", x.order(0), -1);
        check.due("p1 give(0, 0)", x.give(0, 0), false);
        check.due("p1 owe(0, 1, 0)", x.owe(0, 1, 0), false);
        check.due("p1 leaven of house 0", x.leaven(0, -1), -1);
        check.due("p1 gain(0), empty tape", x.gain(0), FAR);
        check.due("p1 odds(0, 0)", Check.odds(x, "a", 0, 0), -1);
        check.due("p1 first house", Check.house(x, 1, 1, 1, "a"), 0);
    }

    /** Promise 1: a new object is new, whatever was told to another one. */
    private static void promise1NothingIsShared() {
        DoughDebts other = withHouses(2);
        other.set(0, 99);
        other.state(5);
        other.rise(0, 0, 0);
        other.owe(0, 1, 7);
        other.leaven(0, -1);
        other.image(true);
        other.feed(1, 2, 3, 4, 5);
        Check.text(other, "worth");
        DoughDebts x = new DoughDebts();
        int[] looks = {0, 0, 0, 0, 0, 0, 0};
        for (int what = 0; what < looks.length; what++) check.due("p1 look " + what, x.look(what), looks[what]);
        check.due("p1 power", x.look(10), 10);
        check.due("p1 fault", x.fault(0), 0);
        check.due("p1 image", x.image(false), false);
        check.due("p1 tape", Check.tapeLength(x), 0);
        Check.house(x, 1, 1, 1, "a");
        check.due("p1 rise", Check.odds(x, "a", 0, 0), 1);
        check.due("p1 net", x.of(0, 9), 0);
    }

    /** Promise 2: any int may be told, and "what it was" is answered. */
    private static void promise2WhatItWas() {
        DoughDebts x = new DoughDebts();
        int before = 0;
        for (int v : new int[] {1, -1, HIGH, LOW, 0, 0, 1 << 24, 255}) {
            check.due("p2 state(" + v + ")", x.state(v), before);
            check.due("p2 look(2)", x.look(2), v);
            before = v;
        }
    }

    /** Promise 3: "if there would be more than 400". */
    private static void promise3AtMost400() {
        for (int length : new int[] {0, 1, 379, 380, 381, 382, 399, 400}) {
            DoughDebts x = new DoughDebts();
            for (int i = 0; i < 20; i++) x.feed(0, 0, 0, 0, 0);
            x.end(length);
            int want = length <= 380 ? length + 20 : -1;
            check.due("p3 feed at " + length, x.feed(0, 0, 0, 0, 0), want);
        }
    }

    /** Promise 3: "NONE, and nothing comes": neither some of the bytes nor others in place of those at hand. */
    private static void promise3NothingComes() {
        DoughDebts x = new DoughDebts();
        for (int i = 0; i < 20; i++) x.feed(0x61626364, 0x65000000, 0, 0, 0);
        x.end(381);
        check.due("p3 refused", x.feed(0x68686868, 0x68686868, 0x68686868, 0x68686868, 0x68686868), -1);
        check.due("p3 not one byte came", x.end(382), false);
        check.due("p3 none went", x.end(381), true);
        check.due("p3 refused again", x.feed(0x68686868, 0x68686868, 0x68686868, 0x68686868, 0x68686868), -1);
        x.end(5);
        check.due("p3 house of what was there", x.house(1, 1, 1), 0);
        for (int k = 0; k < 5; k++) check.due("p3 letter " + k, x.of(0, 10 + k), k);
    }

    /** Promise 3: "Twenty bytes .., of each number the highest first": a wrong sign tells its own place. */
    private static void promise3HighestByteFirst() {
        for (int sign : new int[] {'!', 128, 255}) {
            for (int k = 0; k < 20; k++) {
                int[] v = {0x20202020, 0x20202020, 0x20202020, 0x20202020, 0x20202020};
                int shift = 24 - 8 * (k % 4);
                v[k / 4] = v[k / 4] & ~(255 << shift) | sign << shift;
                DoughDebts x = new DoughDebts();
                x.feed(0x20202020, 0x20202020, 0x20202020, 0x20202020, 0x20202020);
                check.due("p3 behind the tape", x.feed(v[0], v[1], v[2], v[3], v[4]), 40);
                check.due("p3 text", x.text(), -1);
                check.due("p3 place of byte " + k, x.fault(1), 20 + k);
            }
        }
    }

    /** Promise 4: "false, changing nothing, if it has not so many, or n is below 0". */
    private static void promise4NotSoMany() {
        DoughDebts x = new DoughDebts();
        check.due("p4 end(0) of none", x.end(0), true);
        check.due("p4 end(1) of none", x.end(1), false);
        x.feed(0, 0, 0, 0, 0);
        for (int n : new int[] {21, 22, 400, 401, HIGH, -1, -2, LOW}) {
            check.due("p4 end(" + n + ") of 20", x.end(n), false);
        }
        check.due("p4 nothing changed", x.feed(0, 0, 0, 0, 0), 40);
        check.due("p4 end(40) of 40", x.end(40), true);
        check.due("p4 end(39) of 40", x.end(39), true);
        check.due("p4 end(40) of 39", x.end(40), false);
        check.due("p4 39 at hand", x.feed(0, 0, 0, 0, 0), 59);
        check.due("p4 end(0)", x.end(0), true);
        check.due("p4 end(0) again", x.end(0), true);
        check.due("p4 none at hand", x.feed(0, 0, 0, 0, 0), 20);
    }

    /** Promise 4: "The TAPE has its first n bytes alone", and what is fed then comes behind those. */
    private static void promise4FirstBytesAlone() {
        DoughDebts x = new DoughDebts();
        x.feed(0x61626364, 0x65666768, 0, 0, 0);
        x.end(2);
        x.feed(0x68000000, 0, 0, 0, 0);
        x.end(3);
        check.due("p4 house abh", x.house(1, 1, 1), 0);
        check.due("p4 a", x.of(0, 10), 0);
        check.due("p4 b", x.of(0, 11), 1);
        check.due("p4 h", x.of(0, 12), 7);
        check.due("p4 no more", x.of(0, 13), FAR);
    }

    private static void range(int what, int least, int most) {
        for (int v : new int[] {LOW, least - 1, least, least + 1, most - 1, most, most + 1, HIGH}) {
            DoughDebts x = new DoughDebts();
            int[] told = {5, 5, 5};
            told[what] = v;
            boolean good = v >= least && v <= most;
            check.due("p5 house " + what + " " + v, Check.house(x, told[0], told[1], told[2], "a"), good ? 0 : -1);
            check.due("p5 houses", x.look(0), good ? 1 : 0);
            check.due("p5 of " + what, x.of(0, what), good ? v : FAR);
        }
    }

    /** Promise 5 and Terms 1: "SIZE 0 .. 999". */
    private static void promise5Size() {
        range(0, 0, 999);
    }

    /** Promise 5 and Terms 1: "NEED 1 .. 999". */
    private static void promise5Need() {
        range(1, 1, 999);
    }

    /** Promise 5 and Terms 1: "MINUTES 1 .. 99". */
    private static void promise5Minutes() {
        range(2, 1, 99);
    }

    /** Promise 5 and Terms 1: "letters a .. h", at every place of a MARK. */
    private static void promise5LettersOfMark() {
        for (int sign = 0; sign < 256; sign++) {
            DoughDebts x = new DoughDebts();
            boolean good = sign >= 'a' && sign <= 'h';
            check.due("p5 mark " + sign, Check.house(x, 1, 1, 1, String.valueOf((char) sign)), good ? 0 : -1);
            check.due("p5 its letter", x.of(0, 10), good ? sign - 'a' : FAR);
        }
        for (int place = 0; place < 5; place++) {
            for (char sign : new char[] {'`', 'a', 'h', 'i'}) {
                StringBuilder mark = new StringBuilder("bcdef");
                mark.setCharAt(place, sign);
                int want = sign == 'a' || sign == 'h' ? 0 : -1;
                check.due("p5 mark " + mark, Check.house(new DoughDebts(), 1, 1, 1, mark.toString()), want);
            }
        }
    }

    /** Promise 5 and Terms 1: "a row of 1 .. 5 letters". */
    private static void promise5LengthOfMark() {
        for (int length = 0; length <= 21; length++) {
            DoughDebts x = new DoughDebts();
            boolean good = length >= 1 && length <= 5;
            check.due("p5 mark of " + length, Check.house(x, 1, 1, 1, "h".repeat(length)), good ? 0 : -1);
            if (good) {
                check.due("p5 last letter", x.of(0, 9 + length), 7);
                check.due("p5 none behind", x.of(0, 10 + length), FAR);
            }
        }
    }

    /** Promise 5: "the TAPE (empty then)", whatever is answered. */
    private static void promise5TapeIsEmptyThen() {
        DoughDebts x = new DoughDebts();
        Check.house(x, 1000, 1, 1, "a");
        check.due("p5 tape behind a wrong size", Check.tapeLength(x), 0);
        Check.house(x, 1, 1, 1, "abcdefgh");
        check.due("p5 tape behind a wrong mark", Check.tapeLength(x), 0);
        Check.house(x, 1, 1, 1, "a");
        check.due("p5 tape behind a house", Check.tapeLength(x), 0);
        check.due("p5 no mark is left for another", x.house(1, 1, 1), -1);
        DoughDebts full = withHouses(9);
        Check.house(full, 1, 1, 1, "a");
        check.due("p5 tape behind a tenth", Check.tapeLength(full), 0);
    }

    /** Promise 5: "NONE .. there are nine". */
    private static void promise5Nine() {
        DoughDebts x = new DoughDebts();
        for (int h = 0; h < 9; h++) {
            check.due("p5 houses before", x.look(0), h);
            check.due("p5 house " + h, Check.house(x, 100 + h, 10, 1, "a"), h);
        }
        for (int i = 0; i < 2; i++) {
            check.due("p5 tenth", Check.house(x, 500, 10, 1, "b"), -1);
            check.due("p5 nine stay", x.look(0), 9);
        }
        for (int h = 0; h < 9; h++) check.due("p5 size of " + h, x.of(h, 0), 100 + h);
        check.due("p5 no house 9", x.of(9, 0), FAR);
    }

    /** Terms 1: DOUGH, BREAD, WOOD, FIRST, MONDAYS, SOUR are "0 at first, each", on whatever DAY it comes. */
    private static void promise5LateHouse() {
        DoughDebts x = withHouses(1);
        x.give(0, 100);
        x.days(9);
        Check.house(x, 10, 10, 1, "a");
        for (int what = 3; what <= 9; what++) check.due("p5 late house " + what, x.of(1, what), 0);
    }

    /** Promise 6 and Terms 1: "told more by 0 .. 99999 at a time". */
    private static void promise6Amount() {
        DoughDebts x = withHouses(1);
        int dough = 0;
        for (int v : new int[] {LOW, -99999, -1, 0, 1, 99998, 99999, 100000, HIGH}) {
            boolean good = v >= 0 && v <= 99999;
            check.due("p6 give " + v, x.give(0, v), good);
            dough += good ? v : 0;
            check.due("p6 dough", x.of(0, 3), dough);
        }
    }

    /** Promise 6: "DOUGH more for a HOUSE .. false if one can't be". */
    private static void promise6House() {
        DoughDebts x = withHouses(2);
        for (int house : new int[] {LOW, -1, 2, 3, 8, 9, HIGH}) {
            check.due("p6 give to " + house, x.give(house, 1), false);
        }
        check.due("p6 give to the first", x.give(0, 3), true);
        check.due("p6 give to the last", x.give(1, 4), true);
        check.due("p6 dough of the first", x.of(0, 3), 3);
        check.due("p6 dough of the last", x.of(1, 3), 4);
    }

    /** Promise 6 and Terms 1: "999999 at most at hand"; what was baked is not at hand any more. */
    private static void promise6AtHand() {
        DoughDebts x = withHouses(2);
        for (int i = 0; i < 10; i++) x.give(0, 99999);
        check.due("p6 to 1000000", x.give(0, 10), false);
        check.due("p6 stays 999990", x.of(0, 3), 999990);
        check.due("p6 to 999998", x.give(0, 8), true);
        check.due("p6 by 2 to 1000000", x.give(0, 2), false);
        check.due("p6 to 999999", x.give(0, 1), true);
        check.due("p6 one more", x.give(0, 1), false);
        check.due("p6 none more", x.give(0, 0), true);
        check.due("p6 far more", x.give(0, 99999), false);
        check.due("p6 999999", x.of(0, 3), 999999);
        check.due("p6 another house has room", x.give(1, 99999), true);
        x.days(1);
        check.due("p6 a loaf less", x.of(0, 3), 999989);
        check.due("p6 11 more", x.give(0, 11), false);
        check.due("p6 10 more", x.give(0, 10), true);
        check.due("p6 999999 again", x.of(0, 3), 999999);
    }

    /** Promise 7 and Terms 1: POWER 1 .. 99, COOL 0 .. 99, PRICE 0 .. 99, SLEEP 0 .. 100; a refused one stays. */
    private static void promise7Ranges() {
        int[] atFirst = {10, 1, 1, 0};
        int[] least = {1, 0, 0, 0};
        int[] most = {99, 99, 99, 100};
        DoughDebts x = new DoughDebts();
        for (int what = 0; what < 4; what++) {
            int now = atFirst[what];
            check.due("p7 at first " + what, x.look(10 + what), now);
            for (int v : new int[] {LOW, least[what] - 1, least[what], least[what] + 1, most[what] - 1, most[what],
                most[what] + 1, HIGH}) {
                boolean good = v >= least[what] && v <= most[what];
                check.due("p7 set " + what + " " + v, x.set(what, v), good);
                now = good ? v : now;
                check.due("p7 look " + what, x.look(10 + what), now);
            }
        }
        int[] all = {99, 99, 99, 100};
        for (int what = 0; what < 4; what++) check.due("p7 each its own " + what, x.look(10 + what), all[what]);
    }

    /** Promise 7: "false .. another what". */
    private static void promise7OtherWhat() {
        DoughDebts x = new DoughDebts();
        for (int what : new int[] {LOW, -1, 4, 5, 10, HIGH}) check.due("p7 set " + what, x.set(what, 1), false);
        int[] stay = {10, 1, 1, 0};
        for (int what = 0; what < 4; what++) check.due("p7 stays " + what, x.look(10 + what), stay[what]);
    }

    /** Promise 12: "NONE - 999999999 if there is none such". */
    private static void promise12House() {
        DoughDebts x = withHouses(2);
        for (int house : new int[] {LOW, -2, -1, 2, 3, 9, HIGH}) {
            for (int what : new int[] {0, 3, 9, 10}) check.due("p12 of " + house, x.of(house, what), FAR);
        }
        check.due("p12 of the first", x.of(0, 0), 10);
        check.due("p12 of the last", x.of(1, 0), 10);
    }

    /** Promise 12: "10 + k letter k of its MARK .. or another what". */
    private static void promise12What() {
        DoughDebts x = new DoughDebts();
        Check.house(x, 7, 8, 9, "h");
        Check.house(x, 7, 8, 9, "hgfed");
        for (int what : new int[] {LOW, LOW + 9, LOW + 10, -1, 11, 14, 15, 16, 20, HIGH}) {
            check.due("p12 of one letter, what " + what, x.of(0, what), FAR);
        }
        check.due("p12 letter 0", x.of(0, 10), 7);
        for (int k = 0; k < 5; k++) check.due("p12 letter " + k, x.of(1, 10 + k), 7 - k);
        check.due("p12 letter 5", x.of(1, 15), FAR);
        check.due("p12 what 9", x.of(1, 9), 0);
        check.due("p12 size", x.of(1, 0), 7);
        check.due("p12 need", x.of(1, 1), 8);
        check.due("p12 minutes", x.of(1, 2), 9);
    }
}
