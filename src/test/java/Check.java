import java.nio.charset.StandardCharsets;

/** What the tests share: counting of wrong answers, and feeding a text. */
final class Check {
    private int wrong;
    private int asked;

    void due(String call, long got, long want) {
        asked++;
        if (got != want) {
            wrong++;
            System.out.println(call + " answered " + got + ", due is " + want);
        }
    }

    void due(String call, boolean got, boolean want) {
        due(call, got ? 1L : 0L, want ? 1L : 0L);
    }

    void finish(String name) {
        System.out.println(name + ": " + asked + " answers, " + wrong + " wrong");
        if (wrong != 0 || asked == 0) {
            System.exit(1);
        }
    }

    /** Puts the text behind the tape, which must end where a feed can be cut. */
    static void feed(DoughDebts x, String text) {
        byte[] bytes = text.getBytes(StandardCharsets.ISO_8859_1);
        int length = 0;
        for (int i = 0; i < bytes.length; i += 20) {
            int[] five = new int[5];
            for (int k = 0; k < 20; k++) {
                int b = i + k < bytes.length ? bytes[i + k] & 255 : 0;
                five[k / 4] = five[k / 4] << 8 | b;
            }
            length = x.feed(five[0], five[1], five[2], five[3], five[4]);
        }
        if (bytes.length % 20 != 0) {
            x.end(length - 20 + bytes.length % 20);
        }
    }

    static int house(DoughDebts x, int size, int need, int minutes, String mark) {
        feed(x, mark);
        return x.house(size, need, minutes);
    }

    static int text(DoughDebts x, String rule) {
        feed(x, rule);
        return x.text();
    }

    static int gain(DoughDebts x, String order, int house) {
        feed(x, order);
        return x.gain(house);
    }

    static long odds(DoughDebts x, String seen, int house, int what) {
        feed(x, seen);
        return x.odds(house, what);
    }

    static int whose(DoughDebts x, String seen, int what) {
        feed(x, seen);
        return x.whose(what);
    }

    /** What the tape holds, told by what the next twenty bytes make of it; it is empty then. */
    static int tapeLength(DoughDebts x) {
        int length = x.feed(0, 0, 0, 0, 0) - 20;
        x.end(0);
        return length;
    }
}
