import java.util.Random;

/** Any call with any arguments in any state answers; the seeds are fixed. */
public final class NeverThrowsTest {
    private static final int[] EDGES = {Integer.MIN_VALUE, Integer.MIN_VALUE + 9, -1000000000, -2, -1, 0, 1, 2, 7, 8,
        9, 10, 11, 16, 17, 19, 59, 60, 99, 100, 101, 399, 400, 401, 999, 1000, 99999, 100000, 999999, 1 << 30,
        Integer.MAX_VALUE - 9, Integer.MAX_VALUE};
    private static final String[] WORDS = {"worth ", "when ", "or ", "and ", "not ", "(", ")", "<", "=", ">", ";",
        "+", "-", "*", "/", "0", "3", "9999", "size ", "owes ", "day ", "house "};

    private final Random random;
    private final DoughDebts x = new DoughDebts();

    private NeverThrowsTest(long seed) {
        random = new Random(seed);
    }

    public static void main(String[] args) {
        long sum = 0;
        for (int seed = 0; seed < 400; seed++) {
            NeverThrowsTest run = new NeverThrowsTest(seed);
            try {
                for (int i = 0; i < 1500; i++) sum += run.call(run.random.nextInt(29));
            } catch (RuntimeException | StackOverflowError e) {
                System.out.println("seed " + seed + " threw " + e);
                e.printStackTrace(System.out);
                System.exit(1);
            }
        }
        System.out.println("NeverThrowsTest: no call threw in 400 runs (sum of the answers " + sum + ")");
    }

    private int any() {
        int kind = random.nextInt(4);
        return kind == 0 ? EDGES[random.nextInt(EDGES.length)] : kind == 1 ? random.nextInt() : random.nextInt(12) - 1;
    }

    private int row() {
        StringBuilder b = new StringBuilder();
        int kind = random.nextInt(4);
        for (int i = 0; i < 20; i++) {
            if (kind == 0) b.append((char) ('a' + random.nextInt(9)));
            else if (kind == 1) b.append(WORDS[random.nextInt(WORDS.length)]);
            else if (kind == 2) b.append(random.nextInt(9));
            else b.append((char) random.nextInt(256));
        }
        int[] v = new int[5];
        for (int i = 0; i < 20; i++) v[i / 4] = v[i / 4] << 8 | b.charAt(i);
        int length = x.feed(v[0], v[1], v[2], v[3], v[4]);
        if (random.nextBoolean()) x.end(random.nextInt(8));
        return length;
    }

    private long call(int which) {
        switch (which) {
            case 0: return x.state(any());
            case 1: return row();
            case 2: return x.end(any()) ? 1 : 0;
            case 3: row(); return x.house(any(), any(), any());
            case 4: return x.give(any(), any()) ? 1 : 0;
            case 5: return x.set(any(), any()) ? 1 : 0;
            case 6: row(); return x.text();
            case 7: return x.fault(any());
            case 8: return x.order(any());
            case 9: return x.days(any());
            case 10: return x.of(any(), any());
            case 11: return x.book(any());
            case 12: row(); return x.gain(any());
            case 13: return random.nextInt(20) == 0 ? x.orders(any()) : 0;
            case 14: return x.round(any());
            case 15: return random.nextInt(20) == 0 ? x.least(any()) : 0;
            case 16: return x.leaven(any(), any());
            case 17: return x.part(any(), any(), any());
            case 18: return x.lent(any(), any());
            case 19: return x.led(any(), any());
            case 20: return x.rise(any(), any(), any()) ? 1 : 0;
            case 21: row(); return x.odds(any(), any());
            case 22: row(); return x.whose(any());
            case 23: return x.owe(any(), any(), any()) ? 1 : 0;
            case 24: return x.payments();
            case 25: return x.undo() ? 1 : 0;
            case 26: return x.image(random.nextBoolean()) ? 1 : 0;
            case 27: x.end(0); x.feed(0x61616161, 0, 0, 0, 0); x.end(1); return x.house(random.nextInt(99), 50, 9);
            default: return x.look(any());
        }
    }
}
