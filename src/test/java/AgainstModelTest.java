import java.util.ArrayList;
import java.util.Arrays;
import java.util.Collections;
import java.util.List;
import java.util.Random;

/** Long runs of calls, the class and the model side by side; the seeds are fixed. */
public final class AgainstModelTest {
    private static final int RUNS = 700;
    private static final int CALLS = 512;
    private static final String[] FACTS = {"size", "need", "dough", "bread", "wood", "first", "sour", "house",
            "day", "owes"};
    private static final String[] SCRAPS = {"worth", "when", "or", "and", "not", "(", ")", "<", "=", ">", ";", "+",
            "-", "*", "/", "0", "12345", "Size", "siz", " ", "\n", "\t", "!", "00", "7", "\u00e9", "."};

    private final Random random;
    private final DoughDebts x = new DoughDebts();
    private final Model m = new Model();
    private final List<String> calls = new ArrayList<>();
    private final int mostHouses;
    private boolean failed;

    private AgainstModelTest(long seed) {
        random = new Random(seed);
        // The model goes through all orders in the slowest way, so crowds are rare.
        mostHouses = seed % 20 == 0 ? 9 : seed % 10 == 1 ? 7 : 1 + random.nextInt(5);
    }

    public static void main(String[] args) {
        long answers = 0;
        int wrong = 0;
        int from = args.length > 0 ? Integer.parseInt(args[0]) : 0;
        int runs = args.length > 1 ? Integer.parseInt(args[1]) : RUNS;
        for (int seed = from; seed < from + runs; seed++) {
            AgainstModelTest run = new AgainstModelTest(seed);
            run.go();
            answers += run.calls.size();
            if (run.failed) {
                wrong++;
                System.out.println("run of seed " + seed + " went wrong:");
                run.calls.forEach(c -> System.out.println("  " + c));
                if (wrong >= 3) break;
            }
        }
        System.out.println("AgainstModelTest: " + answers + " answers, " + wrong + " runs wrong");
        if (wrong != 0) System.exit(1);
    }

    private void go() {
        int beginners = random.nextInt(mostHouses + 1);
        for (int i = 0; i < beginners && !failed; i++) newHouse();
        while (calls.size() < CALLS - 30 && !failed) anyCall();
    }

    private void same(String call, long got, long want) {
        calls.add(call + " = " + got + (got == want ? "" : ", the model answers " + want));
        failed |= got != want;
    }

    private void same(String call, boolean got, boolean want) {
        same(call, got ? 1 : 0, want ? 1 : 0);
    }

    private int pick(int least, int most) {
        return least + random.nextInt(most - least + 1);
    }

    /** Mostly within the limits, sometimes just at or beyond them, seldom far off. */
    private int near(int least, int most) {
        switch (random.nextInt(30)) {
            case 0: return least - 1;
            case 1: return most + 1;
            case 2: return least;
            case 3: return most;
            case 4: return random.nextInt(4) == 0 ? random.nextInt() : least;
            default: return pick(least, most);
        }
    }

    private int someHouse() {
        int count = x.look(0);
        return random.nextInt(25) == 0 ? near(0, 9) : pick(0, Math.max(0, count - 1));
    }

    private void feed(String text) {
        for (int i = 0; i < text.length(); i += 20) {
            int[] v = new int[5];
            for (int k = 0; k < 20; k++) {
                v[k / 4] = v[k / 4] << 8 | (i + k < text.length() ? text.charAt(i + k) & 255 : 32);
            }
            same("feed" + Arrays.toString(v), x.feed(v[0], v[1], v[2], v[3], v[4]), m.feed(v));
        }
        if (text.length() % 20 != 0 || text.isEmpty()) {
            same("end " + text.length(), x.end(text.length()), m.end(text.length()));
        }
    }

    private String row() {
        StringBuilder b = new StringBuilder();
        int n = random.nextInt(12) == 0 ? random.nextInt(8) : pick(1, 3);
        for (int i = 0; i < n; i++) b.append((char) ('a' + random.nextInt(random.nextInt(30) == 0 ? 9 : 3)));
        return b.toString();
    }

    private void newHouse() {
        if (x.look(0) >= mostHouses && random.nextInt(40) != 0) return;
        feed(row());
        int size = random.nextInt(6) == 0 ? near(0, 999) : pick(0, 120);
        int need = random.nextInt(6) == 0 ? near(1, 999) : pick(1, 90);
        int minutes = random.nextInt(6) == 0 ? near(1, 99) : pick(1, 25);
        same("house " + size + " " + need + " " + minutes, x.house(size, need, minutes), m.house(size, need, minutes));
        int v = pick(0, 2000);
        int h = someHouse();
        same("give " + h + " " + v, x.give(h, v), m.give(h, v));
    }

    private String sum() {
        StringBuilder b = new StringBuilder();
        b.append(unit());
        while (random.nextInt(3) == 0 && b.length() < 60) {
            int op = random.nextInt(4);
            b.append(random.nextBoolean() ? " " : "").append("+-*/".charAt(op));
            b.append(op == 3 ? String.valueOf(random.nextInt(20) == 0 ? 0 : pick(1, 99)) : unit());
        }
        return b.toString();
    }

    private String unit() {
        return random.nextInt(3) == 0 ? String.valueOf(pick(0, random.nextInt(9) == 0 ? 10500 : 120))
                : FACTS[random.nextInt(FACTS.length)];
    }

    private String condition(int depth) {
        StringBuilder b = new StringBuilder(single(depth));
        while (random.nextInt(3) == 0 && b.length() < 100) {
            b.append(random.nextBoolean() ? " and " : " or ").append(single(depth));
        }
        return b.toString();
    }

    private String single(int depth) {
        int kind = random.nextInt(depth > 9 ? 1 : depth > 3 ? 3 : 5);
        if (kind == 1) return "not " + single(depth + 1);
        if (kind == 2) return "(" + condition(depth + 1) + ")";
        return sum() + "<=>".charAt(random.nextInt(3)) + sum();
    }

    private String rule() {
        StringBuilder b = new StringBuilder();
        int lines = random.nextInt(8) == 0 ? pick(14, 18) : random.nextInt(4);
        for (int i = 0; i < lines; i++) {
            b.append("worth ").append(lines > 6 ? unit() : sum());
            if (lines <= 6 && random.nextInt(3) > 0) b.append(" when ").append(condition(random.nextInt(12) == 0 ? 3 : 0));
            b.append(";");
        }
        if (random.nextInt(15) == 0) {
            b.append("worth 1 when ");
            int deep = pick(6, 10);
            for (int i = 0; i < deep; i++) b.append(random.nextBoolean() ? "(" : "not ");
            b.append("1=1");
        }
        if (random.nextInt(3) == 0 && b.length() > 0) mar(b);
        return b.length() > 400 ? b.substring(0, 400) : b.toString();
    }

    private void mar(StringBuilder b) {
        int at = random.nextInt(b.length());
        switch (random.nextInt(3)) {
            case 0: b.deleteCharAt(at); break;
            case 1: b.insert(at, SCRAPS[random.nextInt(SCRAPS.length)]); break;
            default: b.setLength(at); break;
        }
    }

    private String digits() {
        List<Integer> houses = new ArrayList<>();
        for (int h = 0; h < x.look(0); h++) houses.add(h);
        Collections.shuffle(houses, random);
        StringBuilder b = new StringBuilder();
        houses.forEach(b::append);
        if (random.nextInt(12) == 0 && b.length() > 0) mar(b);
        return b.toString();
    }

    private void anyCall() {
        switch (random.nextInt(16)) {
            case 0: newHouse(); break;
            case 1: tell(); break;
            case 2: feed(rule()); readRule(); break;
            case 3: ruleAndOrder(); break;
            case 4: case 5: days(); break;
            case 6: case 7: looks(); break;
            case 8: gains(); break;
            case 9: searches(); break;
            case 10: case 11: leavens(); break;
            case 12: marks(); break;
            case 13: debts(); break;
            case 14: undos(); break;
            default: images(); break;
        }
    }

    private void readRule() {
        same("text", x.text(), m.text());
        same("fault 0", x.fault(0), m.fault(0));
        same("fault 1", x.fault(1), m.fault(1));
        same("look 4", x.look(4), m.look(4));
    }

    private void ruleAndOrder() {
        for (int i = 0; i <= x.look(0); i++) same("order " + i, x.order(i), m.order(i));
        int i = near(0, 9);
        same("order " + i, x.order(i), m.order(i));
        int what = near(0, 1);
        same("fault " + what, x.fault(what), m.fault(what));
    }

    private void tell() {
        int h = someHouse();
        int v = random.nextInt(5) == 0 ? near(0, 99999) : pick(0, 900);
        same("give " + h + " " + v, x.give(h, v), m.give(h, v));
        int what = near(0, 3);
        int to = what == 3 && random.nextInt(3) > 0 ? pick(0, 60) : random.nextInt(3) > 0 ? pick(0, 20) : near(0, 100);
        same("set " + what + " " + to, x.set(what, to), m.set(what, to));
        if (random.nextInt(4) == 0) {
            int state = random.nextInt();
            same("state " + state, x.state(state), m.state(state));
        }
        if (random.nextInt(6) == 0) tapePlay();
    }

    private void tapePlay() {
        int times = random.nextInt(4) == 0 ? 22 : 2;
        for (int i = 0; i < times; i++) {
            int[] v = random.ints(5).toArray();
            same("feed" + Arrays.toString(v), x.feed(v[0], v[1], v[2], v[3], v[4]), m.feed(v));
        }
        int n = near(0, 60);
        same("end " + n, x.end(n), m.end(n));
        if (random.nextBoolean()) readRule();
        same("end 0", x.end(0), m.end(0));
    }

    private void days() {
        int n = random.nextInt(12) == 0 ? near(1, 400) : pick(1, 12);
        same("days " + n, x.days(n), m.days(n));
        same("look 2", x.look(2), m.look(2));
        int what = random.nextInt(4) == 0 ? 100 : near(0, 8);
        same("book " + what, x.book(what), m.book(what));
    }

    private void looks() {
        for (int i = 0; i < 4; i++) {
            int h = someHouse();
            int what = near(0, 15);
            same("of " + h + " " + what, x.of(h, what), m.of(h, what));
        }
        int what = near(0, 14);
        same("look " + what, x.look(what), m.look(what));
    }

    private void gains() {
        feed(digits());
        int h = someHouse();
        same("gain " + h, x.gain(h), m.gain(h));
    }

    private void searches() {
        int what = random.nextInt(3) == 0 ? 0 : near(9, 19);
        if (x.look(0) < 6 || random.nextInt(4) == 0) {
            same("orders " + what, x.orders(what), m.orders(what));
            same("least " + what, x.least(what), m.least(what));
        }
        same("round 0", x.round(0), m.round(0));
        what = near(0, 2);
        same("round " + what, x.round(what), m.round(what));
    }

    private void leavens() {
        int count = x.look(3);
        int a = count > 0 && random.nextInt(3) > 0 ? pick(Math.max(0, count - 2), count - 1) : near(0, 9);
        int b = random.nextInt(4) == 0 ? -1 : count > 0 && random.nextInt(9) > 0 ? pick(0, count - 1) : near(0, 60);
        if (random.nextInt(3) > 0 && b >= 0) b = a;
        same("leaven " + a + " " + b, x.leaven(a, b), m.leaven(a, b));
        int l = near(0, count + 1);
        int f = near(0, Math.min(9, count + 1));
        int what = near(0, 1);
        same("part " + l + " " + f + " " + what, x.part(l, f, what), m.part(l, f, what));
        what = near(0, 4);
        same("lent " + l + " " + what, x.lent(l, what), m.lent(l, what));
        same("led " + l + " " + f, x.led(l, f), m.led(l, f));
    }

    private void marks() {
        int from = random.nextInt(4) == 0 ? near(0, 7) : pick(0, 2);
        int to = random.nextInt(4) == 0 ? near(0, 7) : pick(0, 2);
        int v = near(0, 9);
        same("rise " + from + " " + to + " " + v, x.rise(from, to, v), m.rise(from, to, v));
        String seen = row();
        for (int what = 0; what < 2; what++) {
            int h = someHouse();
            feed(seen);
            same("odds " + h + " " + what, x.odds(h, what), m.odds(h, what));
        }
        feed(seen);
        int what = near(0, 1);
        same("whose " + what, x.whose(what), m.whose(what));
    }

    private void debts() {
        for (int i = 0; i < 4; i++) {
            int a = someHouse();
            int b = someHouse();
            int v = random.nextInt(5) == 0 ? near(-99999, 99999) : pick(-4, 4);
            same("owe " + a + " " + b + " " + v, x.owe(a, b, v), m.owe(a, b, v));
        }
        same("payments", x.payments(), m.payments());
    }

    private void undos() {
        for (int i = pick(1, 3); i > 0; i--) same("undo", x.undo(), m.undo());
        same("look 5", x.look(5), m.look(5));
    }

    private void images() {
        if (random.nextInt(3) > 0) return;
        boolean taken = random.nextBoolean();
        same("image " + taken, x.image(taken), m.image(taken));
        same("look 5", x.look(5), m.look(5));
    }
}
