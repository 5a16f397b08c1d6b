import java.math.BigInteger;
import java.nio.ByteBuffer;
import java.util.ArrayDeque;
import java.util.ArrayList;
import java.util.Arrays;
import java.util.Collections;
import java.util.Deque;
import java.util.HashSet;
import java.util.List;
import java.util.Set;

/** The document again, as plainly as the Java library lets it be said, to hold the class against. */
final class Model {
    static final int NONE = -1;
    static final int FAR = -1000000000;
    private static final List<String> FACTS = List.of("size", "need", "dough", "bread", "wood",
            "first", "sour", "house", "day", "owes");
    private static final List<String> KEYWORDS = List.of("worth", "when", "or", "and", "not", "size", "need",
            "dough", "bread", "wood", "first", "sour", "house", "day", "owes");

    static final class House {
        int size, need, minutes, dough, bread, wood, first, mondays, sour;
        String mark;

        House copy() {
            House h = new House();
            h.size = size; h.need = need; h.minutes = minutes; h.dough = dough; h.bread = bread; h.wood = wood;
            h.first = first; h.mondays = mondays; h.sour = sour; h.mark = mark;
            return h;
        }
    }

    static final class Leaven {
        int house = NONE, a = NONE, b = NONE;
    }

    interface Num { int of(Model m, int h); }

    interface Cond { boolean of(Model m, int h); }

    record Line(Num worth, Cond when) { }

    /** What a day changes. */
    static final class Dayly {
        List<House> houses = new ArrayList<>();
        int state, day, lost, burnt = NONE;
        List<Integer> book = new ArrayList<>();

        Dayly copy() {
            Dayly d = new Dayly();
            for (House h : houses) d.houses.add(h.copy());
            d.state = state; d.day = day; d.lost = lost; d.burnt = burnt;
            d.book = new ArrayList<>(book);
            return d;
        }
    }

    static final class All {
        Dayly d = new Dayly();
        int[] settings = {10, 1, 1, 0};
        List<Line> rule = new ArrayList<>();
        List<Leaven> leavens = new ArrayList<>();
        int[][] rise = new int[8][8];
        long[][] debts = new long[9][9];

        All copy() {
            All c = new All();
            c.d = d.copy();
            c.settings = settings.clone();
            c.rule = new ArrayList<>(rule);
            c.leavens = new ArrayList<>(leavens);
            for (int i = 0; i < 8; i++) c.rise[i] = rise[i].clone();
            for (int i = 0; i < 9; i++) c.debts[i] = debts[i].clone();
            return c;
        }
    }

    private All s = new All();
    private All image;
    private final Deque<Dayly> undo = new ArrayDeque<>();
    private StringBuilder tape = new StringBuilder();
    private int fault, faultPlace = NONE;

    Model() {
        for (int i = 0; i < 8; i++) s.rise[i][i] = 9;
    }

    private int count() { return s.d.houses.size(); }
    private boolean isHouse(int h) { return h >= 0 && h < count(); }
    private static boolean in(int v, int a, int b) { return v >= a && v <= b; }
    private String takeTape() { String t = tape.toString(); tape = new StringBuilder(); return t; }
    private static boolean isMark(String t) { return t.matches("[a-h]{1,5}"); }

    int state(int v) { int was = s.d.state; s.d.state = v; return was; }

    int feed(int... five) {
        if (tape.length() + 20 > 400) return NONE;
        for (int v : five) {
            for (byte b : ByteBuffer.allocate(4).putInt(v).array()) tape.append((char) (b & 255));
        }
        return tape.length();
    }

    boolean end(int n) {
        if (n < 0 || n > tape.length()) return false;
        tape.setLength(n);
        return true;
    }

    int house(int size, int need, int minutes) {
        String mark = takeTape();
        if (!in(size, 0, 999) || !in(need, 1, 999) || !in(minutes, 1, 99) || !isMark(mark) || count() == 9) return NONE;
        House h = new House();
        h.size = size; h.need = need; h.minutes = minutes; h.mark = mark;
        s.d.houses.add(h);
        undo.clear();
        return count() - 1;
    }

    boolean give(int house, int v) {
        if (!isHouse(house) || !in(v, 0, 99999) || s.d.houses.get(house).dough + v > 999999) return false;
        s.d.houses.get(house).dough += v;
        undo.clear();
        return true;
    }

    boolean set(int what, int v) {
        int[][] limits = {{1, 99}, {0, 99}, {0, 99}, {0, 100}};
        if (!in(what, 0, 3) || !in(v, limits[what][0], limits[what][1])) return false;
        s.settings[what] = v;
        undo.clear();
        return true;
    }

    // ---- the rule: tokens first, then by descent

    private record Token(String word, int place, boolean number, boolean known) { }

    private static final class Fault extends Exception {
        private static final long serialVersionUID = 1L;
        final int number, place;
        Fault(int number, int place) { this.number = number; this.place = place; }
    }

    private List<Token> tokens;
    private int at;
    private int open;

    private static List<Token> lex(String t) {
        List<Token> list = new ArrayList<>();
        int i = 0;
        while (i < t.length()) {
            char c = t.charAt(i);
            if (c == 32 || c == 10) { i++; continue; }
            int j = i;
            String one = String.valueOf(c);
            String set = one.matches("[A-Za-z]") ? "[A-Za-z]" : one.matches("[0-9]") ? "[0-9]" : null;
            if (set == null) {
                list.add(new Token(one, i, false, ";+-*/()<=>".contains(one)));
                i++;
                continue;
            }
            while (j < t.length() && String.valueOf(t.charAt(j)).matches(set)) j++;
            String word = t.substring(i, j);
            boolean number = word.matches("[0-9]{1,4}");
            list.add(new Token(word, i, number, number || KEYWORDS.contains(word)));
            i = j;
        }
        list.add(new Token("", t.length(), false, false));
        return list;
    }

    private Token peek() { return tokens.get(at); }
    private boolean sees(String... words) { return peek().known && Arrays.asList(words).contains(peek().word); }
    private Token pass() { return tokens.get(at++); }
    private Token want(String word) throws Fault {
        if (!sees(word)) throw new Fault(1, peek().place);
        return pass();
    }

    int text() {
        String t = takeTape();
        tokens = lex(t);
        at = 0;
        open = 0;
        fault = 0;
        faultPlace = NONE;
        List<Line> lines = new ArrayList<>();
        try {
            while (at < tokens.size() - 1) {
                Token worth = want("worth");
                if (lines.size() == 16) throw new Fault(3, worth.place);
                Num e = sum();
                Cond b = null;
                if (sees("when")) { pass(); b = either(); }
                want(";");
                lines.add(new Line(e, b));
            }
        } catch (Fault f) {
            fault = f.number;
            faultPlace = f.place;
            return NONE;
        }
        s.rule = lines;
        return lines.size();
    }

    private Cond either() throws Fault {
        Cond left = both();
        while (sees("or")) { pass(); Cond l = left, r = both(); left = (m, h) -> l.of(m, h) || r.of(m, h); }
        return left;
    }

    private Cond both() throws Fault {
        Cond left = single();
        while (sees("and")) { pass(); Cond l = left, r = single(); left = (m, h) -> l.of(m, h) && r.of(m, h); }
        return left;
    }

    private Cond single() throws Fault {
        if (sees("not", "(")) {
            Token t = pass();
            if (++open == 9) throw new Fault(3, t.place);
            Cond c;
            if (t.word.equals("not")) {
                Cond inner = single();
                c = (m, h) -> !inner.of(m, h);
            } else {
                c = either();
                want(")");
            }
            open--;
            return c;
        }
        Num l = sum();
        if (!sees("<", "=", ">")) throw new Fault(1, peek().place);
        String op = pass().word;
        Num r = sum();
        return (m, h) -> {
            int c = Integer.compare(l.of(m, h), r.of(m, h));
            return op.equals("<") ? c < 0 : op.equals("=") ? c == 0 : c > 0;
        };
    }

    private Num sum() throws Fault {
        Num left = product();
        while (sees("+", "-")) {
            boolean plus = pass().word.equals("+");
            Num l = left, r = product();
            left = (m, h) -> plus ? l.of(m, h) + r.of(m, h) : l.of(m, h) - r.of(m, h);
        }
        return left;
    }

    private Num product() throws Fault {
        Num left = unit();
        while (sees("*", "/")) {
            boolean times = pass().word.equals("*");
            Num l = left;
            if (times) {
                Num r = unit();
                left = (m, h) -> l.of(m, h) * r.of(m, h);
            } else {
                Token t = peek();
                if (!t.number) throw new Fault(1, t.place);
                int n = Integer.parseInt(t.word);
                if (n == 0) throw new Fault(2, t.place);
                pass();
                left = (m, h) -> l.of(m, h) / n;
            }
        }
        return left;
    }

    private Num unit() throws Fault {
        Token t = peek();
        if (t.number) { pass(); int n = Integer.parseInt(t.word); return (m, h) -> n; }
        if (!FACTS.contains(t.word)) throw new Fault(1, t.place);
        pass();
        return (m, h) -> m.fact(t.word, h);
    }

    private int fact(String word, int h) {
        House x = s.d.houses.get(h);
        switch (word) {
            case "size": return x.size;
            case "need": return x.need;
            case "dough": return x.dough;
            case "bread": return x.bread;
            case "wood": return x.wood;
            case "first": return x.first;
            case "sour": return x.sour;
            case "house": return h;
            case "day": return s.d.day;
            default: return -net(h);
        }
    }

    int fault(int what) { return what == 0 ? fault : what == 1 ? faultPlace : NONE; }

    // ---- orders and days

    private int worth(int h) {
        for (Line l : s.rule) if (l.when == null || l.when.of(this, h)) return l.worth.of(this, h);
        return 0;
    }

    private List<Integer> byRule() {
        List<Integer> o = new ArrayList<>();
        for (int h = 0; h < count(); h++) o.add(h);
        o.sort((a, b) -> Integer.compare(worth(b), worth(a)));
        return o;
    }

    private List<Integer> today() {
        List<Integer> o = byRule();
        if (s.d.day % 7 == 0 && !o.isEmpty()) {
            int best = 0;
            for (int h = 0; h < count(); h++) if (s.d.houses.get(h).mondays < s.d.houses.get(best).mondays) best = h;
            o.remove((Integer) best);
            o.add(0, best);
        }
        return o;
    }

    int order(int i) { return isHouse(i) ? today().get(i) : NONE; }

    private int draw(int m) {
        s.d.state = s.d.state * 1664525 + 1013904223;
        return (int) ((s.d.state & 0xffffffffL) / 256 % m);
    }

    int days(int n) {
        if (n < 1 || n > 400 || s.d.day + n > 9999) return NONE;
        int burnt = 0;
        for (int i = 0; i < n; i++) {
            undo.addLast(s.d.copy());
            if (undo.size() > 8) undo.removeFirst();
            if (oneDay()) burnt++;
        }
        return burnt;
    }

    /** Wood of each place of an order, and with it the heat. */
    private int[] woodOf(List<Integer> order) {
        int[] wood = new int[order.size()];
        int heat = 0;
        for (int i = 0; i < wood.length; i++) {
            House h = s.d.houses.get(order.get(i));
            if (loaf(h) == 0) continue;
            while (heat < h.need) { heat += s.settings[0]; wood[i]++; }
            heat = Math.max(0, heat - s.settings[1] * h.minutes);
        }
        return wood;
    }

    private static int loaf(House h) { return Math.min(h.size, h.dough); }

    private boolean oneDay() {
        List<Integer> o = today();
        int burntPlace = NONE;
        if (s.settings[3] > 0 && count() > 0 && draw(100) < s.settings[3]) burntPlace = draw(count());
        int[] wood = woodOf(o);
        int[] loaves = o.stream().mapToInt(h -> loaf(s.d.houses.get(h))).toArray();
        for (int i = 0; i < o.size(); i++) {
            House h = s.d.houses.get(o.get(i));
            h.wood += wood[i];
            h.dough -= loaves[i];
            if (loaves[i] == 0) h.sour++; else h.sour = 0;
            if (i == burntPlace) { s.d.lost += loaves[i]; continue; }
            int ninth = i == 0 ? 0 : loaves[i] / 9;
            h.bread += loaves[i] - ninth;
            if (i > 0) s.d.houses.get(o.get(i - 1)).bread += ninth;
        }
        if (!o.isEmpty()) {
            s.d.houses.get(o.get(0)).first++;
            if (s.d.day % 7 == 0) s.d.houses.get(o.get(0)).mondays++;
        }
        s.d.book = o;
        s.d.burnt = burntPlace == NONE ? NONE : o.get(burntPlace);
        s.d.day++;
        return burntPlace != NONE;
    }

    int of(int house, int what) {
        if (!isHouse(house)) return FAR;
        House h = s.d.houses.get(house);
        int[] all = {h.size, h.need, h.minutes, h.dough, h.bread, h.wood, h.first, h.mondays, h.sour, net(house)};
        if (in(what, 0, 9)) return all[what];
        if (what >= 10 && what - 10 < h.mark.length()) return h.mark.charAt(what - 10) - 'a';
        return FAR;
    }

    int book(int what) {
        if (what == 100) return s.d.burnt;
        return what >= 0 && what < s.d.book.size() ? s.d.book.get(what) : NONE;
    }

    private int[] gains(List<Integer> o) {
        int[] wood = woodOf(o);
        int[] bread = new int[o.size()];
        for (int i = 0; i < o.size(); i++) {
            int l = loaf(s.d.houses.get(o.get(i)));
            int ninth = i == 0 ? 0 : l / 9;
            bread[i] += l - ninth;
            if (i > 0) bread[i - 1] += ninth;
        }
        int[] byHouse = new int[o.size()];
        for (int i = 0; i < o.size(); i++) {
            byHouse[o.get(i)] = bread[i] - loaf(s.d.houses.get(o.get(i))) - s.settings[2] * wood[i];
        }
        return byHouse;
    }

    int gain(int house) {
        String t = takeTape();
        List<Integer> o = new ArrayList<>();
        for (char c : t.toCharArray()) o.add(c - '0');
        Set<Integer> all = new HashSet<>();
        for (int h = 0; h < count(); h++) all.add(h);
        if (o.size() != count() || !new HashSet<>(o).equals(all) || !isHouse(house)) return FAR;
        return gains(o)[house];
    }

    private int firstChange(List<Integer> o) {
        int[] now = gains(o);
        for (int i = 0; i + 1 < o.size(); i++) {
            int[] then = gains(swapped(o, i));
            if (then[o.get(i)] > now[o.get(i)] && then[o.get(i + 1)] > now[o.get(i + 1)]) return i;
        }
        return NONE;
    }

    private static List<Integer> swapped(List<Integer> o, int i) {
        List<Integer> c = new ArrayList<>(o);
        Collections.swap(c, i, i + 1);
        return c;
    }

    private static List<List<Integer>> permutations(int n) {
        List<List<Integer>> all = new ArrayList<>();
        all.add(new ArrayList<>());
        for (int i = 0; i < n; i++) {
            List<List<Integer>> longer = new ArrayList<>();
            for (List<Integer> p : all) for (int h = 0; h < n; h++) if (!p.contains(h)) {
                List<Integer> q = new ArrayList<>(p);
                q.add(h);
                longer.add(q);
            }
            all = longer;
        }
        return all;
    }

    int orders(int what) {
        if (count() > 7) return NONE;
        List<List<Integer>> settled = new ArrayList<>();
        for (List<Integer> p : permutations(count())) if (firstChange(p) == NONE) settled.add(p);
        if (what == 0) return settled.size();
        return what >= 10 && what - 10 < count() && !settled.isEmpty() ? settled.get(0).get(what - 10) : NONE;
    }

    int round(int what) {
        if (!in(what, 0, 1)) return NONE;
        List<List<Integer>> path = new ArrayList<>();
        List<Integer> o = byRule();
        for (int c = 0; c <= 200; c++) {
            if (path.contains(o)) return what == 0 ? NONE : c - path.indexOf(o);
            path.add(o);
            int i = firstChange(o);
            if (i == NONE) return what == 0 ? c : 0;
            o = swapped(o, i);
        }
        return what == 0 ? NONE : 0;
    }

    int least(int what) {
        if (count() > 7) return NONE;
        List<Integer> best = null;
        int bestWood = 0;
        for (List<Integer> p : permutations(count())) {
            int wood = Arrays.stream(woodOf(p)).sum();
            if (best == null || wood < bestWood) { best = p; bestWood = wood; }
        }
        if (what == 0) return bestWood;
        return what >= 10 && what - 10 < count() ? best.get(what - 10) : NONE;
    }

    // ---- leavens

    private boolean isLeaven(int l) { return l >= 0 && l < s.leavens.size(); }

    private int age(int l) {
        int[] ages = new int[l + 1];
        for (int k = 0; k <= l; k++) {
            Leaven x = s.leavens.get(k);
            ages[k] = x.house != NONE ? 0 : 1 + Math.max(ages[x.a], ages[x.b]);
        }
        return ages[l];
    }

    int leaven(int a, int b) {
        if (s.leavens.size() == 60) return NONE;
        Leaven l = new Leaven();
        if (b == NONE) {
            if (!isHouse(a)) return NONE;
            l.house = a;
        } else {
            if (!isLeaven(a) || !isLeaven(b) || Math.max(age(a), age(b)) == 30) return NONE;
            l.a = a;
            l.b = b;
        }
        s.leavens.add(l);
        return s.leavens.size() - 1;
    }

    int part(int leaven, int from, int what) {
        if (!isLeaven(leaven) || !isLeaven(from) || s.leavens.get(from).house == NONE || !in(what, 0, 1)) return NONE;
        BigInteger[] above = new BigInteger[leaven + 1];
        BigInteger[] below = new BigInteger[leaven + 1];
        for (int k = 0; k <= leaven; k++) {
            Leaven x = s.leavens.get(k);
            BigInteger n, d;
            if (x.house != NONE) {
                n = k == from ? BigInteger.ONE : BigInteger.ZERO;
                d = BigInteger.ONE;
            } else {
                n = above[x.a].multiply(below[x.b]).add(above[x.b].multiply(below[x.a]));
                d = below[x.a].multiply(below[x.b]).shiftLeft(1);
            }
            BigInteger g = n.gcd(d);
            above[k] = n.divide(g);
            below[k] = d.divide(g);
        }
        return (what == 0 ? above : below)[leaven].intValueExact();
    }

    private Set<Integer> sources(int l) {
        List<Set<Integer>> all = new ArrayList<>();
        for (int k = 0; k <= l; k++) {
            Set<Integer> set = new HashSet<>();
            set.add(k);
            Leaven x = s.leavens.get(k);
            if (x.house == NONE) { set.addAll(all.get(x.a)); set.addAll(all.get(x.b)); }
            all.add(set);
        }
        return all.get(l);
    }

    int lent(int leaven, int what) {
        if (!isLeaven(leaven)) return -2;
        Leaven x = s.leavens.get(leaven);
        Set<Integer> houses = new HashSet<>();
        for (int k : sources(leaven)) if (s.leavens.get(k).house != NONE) houses.add(s.leavens.get(k).house);
        int[] all = {age(leaven), x.house, x.a, x.b, houses.size()};
        return in(what, 0, 4) ? all[what] : -2;
    }

    int led(int a, int b) {
        if (!isLeaven(a) || !isLeaven(b)) return NONE;
        return sources(a).contains(b) ? 1 : 0;
    }

    // ---- marks

    boolean rise(int from, int to, int v) {
        if (!in(from, 0, 7) || !in(to, 0, 7) || !in(v, 0, 9)) return false;
        s.rise[from][to] = v;
        return true;
    }

    private BigInteger[] oddsOf(int house, String seen) {
        String mark = s.d.houses.get(house).mark;
        BigInteger n = BigInteger.ONE, d = BigInteger.ONE;
        if (mark.length() != seen.length()) n = BigInteger.ZERO;
        else for (int i = 0; i < mark.length(); i++) {
            int[] row = s.rise[mark.charAt(i) - 'a'];
            int sum = Arrays.stream(row).sum();
            n = n.multiply(BigInteger.valueOf(sum == 0 ? 0 : row[seen.charAt(i) - 'a']));
            d = d.multiply(BigInteger.valueOf(sum == 0 ? 1 : sum));
        }
        BigInteger g = n.gcd(d);
        return new BigInteger[] {n.divide(g), d.divide(g)};
    }

    long odds(int house, int what) {
        String seen = takeTape();
        if (!isHouse(house) || !isMark(seen) || !in(what, 0, 1)) return NONE;
        return oddsOf(house, seen)[what].longValueExact();
    }

    int whose(int what) {
        String seen = takeTape();
        if (!isMark(seen) || !in(what, 0, 1)) return -2;
        BigInteger[] best = {BigInteger.ZERO, BigInteger.ONE};
        List<Integer> with = new ArrayList<>();
        for (int h = 0; h < count(); h++) {
            BigInteger[] o = oddsOf(h, seen);
            int c = o[0].multiply(best[1]).compareTo(best[0].multiply(o[1]));
            if (o[0].signum() == 0 || c < 0) continue;
            if (c > 0) with.clear();
            best = o;
            with.add(h);
        }
        return what == 0 ? (with.isEmpty() ? NONE : with.get(0)) : with.size() == 1 ? 1 : 0;
    }

    // ---- debts

    private int net(int h) {
        long net = 0;
        for (int k = 0; k < 9; k++) net += s.debts[k][h] - s.debts[h][k];
        return (int) net;
    }

    boolean owe(int a, int b, int v) {
        if (!isHouse(a) || !isHouse(b) || a == b || !in(v, -99999, 99999)) return false;
        s.debts[a][b] += v;
        return true;
    }

    int payments() {
        int[] nets = new int[count()];
        for (int h = 0; h < nets.length; h++) nets[h] = net(h);
        return settle(nets, 0);
    }

    /** The first unsettled house pays all it owes to, or is paid all by, one of the others. */
    private static int settle(int[] nets, int from) {
        int i = from;
        while (i < nets.length && nets[i] == 0) i++;
        if (i == nets.length) return 0;
        int best = Integer.MAX_VALUE;
        for (int j = i + 1; j < nets.length; j++) {
            if (nets[j] == 0 || Integer.signum(nets[j]) == Integer.signum(nets[i])) continue;
            nets[j] += nets[i];
            best = Math.min(best, 1 + settle(nets, i + 1));
            nets[j] -= nets[i];
        }
        return best;
    }

    boolean undo() {
        if (undo.isEmpty()) return false;
        s.d = undo.removeLast();
        return true;
    }

    boolean image(boolean taken) {
        if (taken) { image = s.copy(); return true; }
        if (image == null) return false;
        s = image.copy();
        undo.clear();
        return true;
    }

    int look(int what) {
        int[] all = {count(), s.d.day, s.d.state, s.leavens.size(), s.rule.size(), undo.size(), s.d.lost};
        if (in(what, 0, 6)) return all[what];
        return in(what, 10, 13) ? s.settings[what - 10] : NONE;
    }
}
