/** A commons oven, the houses that bake in it one behind another, and what they owe one another. */
public final class DoughDebts {
    public static final int NONE = -1;

    private static final int NO_FIGURE = NONE - 999999999;
    private static final int NO_ANSWER = NONE - 1;

    private static final int MOST_HOUSES = 9;
    private static final int MOST_SIZE = 999;
    private static final int MOST_NEED = 999;
    private static final int MOST_MINUTES = 99;
    private static final int MARK_LETTERS = 5;
    private static final int LETTERS = 8;
    private static final int MOST_RISE = 9;
    private static final int MOST_GIVEN = 99999;
    private static final int MOST_DOUGH = 999999;
    private static final int MOST_OWED = 99999;

    private static final int SETTINGS = 4;
    private static final int POWER = 0;
    private static final int COOL = 1;
    private static final int PRICE = 2;
    private static final int SLEEP = 3;

    private static final int WEEK = 7;
    private static final int MOST_DAYS = 400;
    private static final int LAST_DAY = 9999;
    private static final int KEPT_DAYS = 8;

    private static final int MOST_SEARCHED = 7;
    private static final int MOST_CHANGES = 200;

    private static final int MOST_LEAVENS = 60;
    private static final int MOST_MIXINGS = 30;

    private static final int TAPE_BYTES = 400;
    private static final int FED_BYTES = 20;

    private static final int MOST_LINES = 16;
    private static final int MOST_OPEN = 8;

    /** The keywords in their order, each filled up with blanks to the same width. */
    private static final String KEYWORDS =
            "worthwhen or   and  not  size need doughbreadwood firstsour houseday  owes ";
    private static final String SIGNS = ";+-*/()<=>";
    private static final int KEYWORD_WIDTH = 5;
    private static final int KEYWORD_COUNT = 15;
    private static final int FACTS = 10;

    /** Kinds of tokens: a sign is its own character, a keyword WORTH and its place in KEYWORDS. */
    private static final int WORTH = 256;
    private static final int WHEN = 257;
    private static final int OR = 258;
    private static final int AND = 259;
    private static final int NOT = 260;
    private static final int FIRST_FACT = 261;
    private static final int NUMBER = 300;
    private static final int TEXT_END = 301;
    private static final int UNKNOWN = 302;

    /** In a compiled rule: below this a number itself, from this on a fact, below 0 an operator. */
    private static final int FACT_CODE = 10000;
    private static final int STACK = 64;

    private static final int CANNOT_STAND = 1;
    private static final int PART_BY_ZERO = 2;
    private static final int TOO_MANY = 3;

    private final Tape tape;
    private final Commons now;
    private final Commons kept;
    private boolean imageTaken;
    private final History history;
    private final RuleReader reader;
    private final Lineup lineup;
    private final Settling settling;

    public DoughDebts() {
        tape = new Tape();
        now = new Commons();
        kept = new Commons();
        history = new History();
        reader = new RuleReader(tape);
        lineup = new Lineup(now);
        settling = new Settling();
    }

    public int state(int v) {
        int before = now.times.state;
        now.times.state = v;
        return before;
    }

    public int feed(int a, int b, int c, int d, int e) {
        if (tape.length > TAPE_BYTES - FED_BYTES) {
            return NONE;
        }
        tape.add(a);
        tape.add(b);
        tape.add(c);
        tape.add(d);
        tape.add(e);
        return tape.length;
    }

    public boolean end(int n) {
        if (n < 0 || n > tape.length) {
            return false;
        }
        tape.length = n;
        return true;
    }

    public int house(int size, int need, int minutes) {
        int number = NONE;
        if (isWithin(size, 0, MOST_SIZE) && isWithin(need, 1, MOST_NEED)
                && isWithin(minutes, 1, MOST_MINUTES) && tape.isMark()) {
            number = now.houses.add(size, need, minutes, tape);
        }
        tape.length = 0;
        if (number != NONE) {
            history.forget();
        }
        return number;
    }

    public boolean give(int house, int v) {
        if (!now.houses.has(house) || !isWithin(v, 0, MOST_GIVEN)
                || now.times.dough[house] > MOST_DOUGH - v) {
            return false;
        }
        now.times.dough[house] += v;
        history.forget();
        return true;
    }

    public boolean set(int what, int v) {
        if (!isSetting(what, v)) {
            return false;
        }
        now.settings[what] = v;
        history.forget();
        return true;
    }

    public int text() {
        boolean faultless = reader.read();
        tape.length = 0;
        if (!faultless) {
            return NONE;
        }
        now.rule.take(reader.code, reader.codeLength, reader.lines);
        return now.rule.lines;
    }

    public int fault(int what) {
        if (what == 0) {
            return reader.fault;
        }
        return what == 1 ? reader.faultPlace : NONE;
    }

    public int order(int i) {
        if (!now.houses.has(i)) {
            return NONE;
        }
        lineup.standForToday();
        return lineup.order[i];
    }

    public int days(int n) {
        if (!isWithin(n, 1, MOST_DAYS) || now.times.day > LAST_DAY - n) {
            return NONE;
        }
        int burnt = 0;
        for (int i = 0; i < n; i++) {
            // Earlier days of this call would be pushed out by its own last ones.
            if (n - i <= KEPT_DAYS) {
                history.keep(now.times);
            }
            if (lineup.passDay()) {
                burnt++;
            }
        }
        return burnt;
    }

    public int of(int house, int what) {
        if (!now.houses.has(house)) {
            return NO_FIGURE;
        }
        switch (what) {
            case 0: return now.houses.size[house];
            case 1: return now.houses.need[house];
            case 2: return now.houses.minutes[house];
            case 3: return now.times.dough[house];
            case 4: return now.times.bread[house];
            case 5: return now.times.wood[house];
            case 6: return now.times.first[house];
            case 7: return now.times.mondays[house];
            case 8: return now.times.sour[house];
            case 9: return now.houses.net[house];
            default: break;
        }
        int k = what - 10;
        return k >= 0 && k < now.houses.markLength[house] ? now.houses.letterOf(house, k) : NO_FIGURE;
    }

    public int book(int what) {
        if (what == 100) {
            return now.times.burnt;
        }
        return what >= 0 && what < now.times.places ? now.times.stood[what] : NONE;
    }

    public int gain(int house) {
        boolean ordered = lineup.standAsTold(tape);
        tape.length = 0;
        return ordered && now.houses.has(house) ? lineup.gainOf(house) : NO_FIGURE;
    }

    public int orders(int what) {
        if (!canSearch(what)) {
            return NONE;
        }
        lineup.findSettled();
        if (what == 0) {
            return lineup.settledCount;
        }
        return lineup.settledCount > 0 ? lineup.found[what - 10] : NONE;
    }

    public int round(int what) {
        if (what != 0 && what != 1) {
            return NONE;
        }
        lineup.goRound();
        return what == 0 ? lineup.changes : lineup.circle;
    }

    public int least(int what) {
        if (!canSearch(what)) {
            return NONE;
        }
        lineup.findLeastWood();
        return what == 0 ? lineup.leastWood : lineup.found[what - 10];
    }

    public int leaven(int a, int b) {
        if (b == NONE) {
            return now.houses.has(a) ? now.leavens.addNew(a) : NONE;
        }
        return now.leavens.has(a) && now.leavens.has(b) ? now.leavens.addMixed(a, b) : NONE;
    }

    public int part(int leaven, int from, int what) {
        if (!now.leavens.has(leaven) || !now.leavens.has(from) || !now.leavens.isNew(from)
                || (what != 0 && what != 1)) {
            return NONE;
        }
        long above = now.leavens.shareOf(leaven, from);
        long below = Leavens.WHOLE;
        long divisor = greatestCommonDivisor(above, below);
        if (divisor <= 0) {
            return NONE;
        }
        return (int) ((what == 0 ? above : below) / divisor);
    }

    public int lent(int leaven, int what) {
        if (!now.leavens.has(leaven)) {
            return NO_ANSWER;
        }
        switch (what) {
            case 0: return now.leavens.age[leaven];
            case 1: return now.leavens.owner[leaven];
            case 2: return now.leavens.one[leaven];
            case 3: return now.leavens.other[leaven];
            case 4: return now.leavens.ownersWithin(leaven);
            default: return NO_ANSWER;
        }
    }

    public int led(int a, int b) {
        if (!now.leavens.has(a) || !now.leavens.has(b)) {
            return NONE;
        }
        return now.leavens.isLed(a, b) ? 1 : 0;
    }

    public boolean rise(int from, int to, int v) {
        if (!isWithin(from, 0, LETTERS - 1) || !isWithin(to, 0, LETTERS - 1)
                || !isWithin(v, 0, MOST_RISE)) {
            return false;
        }
        now.rises.rise[from * LETTERS + to] = v;
        return true;
    }

    public long odds(int house, int what) {
        long answer = NONE;
        if (tape.isMark() && now.houses.has(house) && (what == 0 || what == 1)) {
            long above = now.rises.above(now.houses, house, tape);
            long below = now.rises.below(now.houses, house, above);
            long divisor = greatestCommonDivisor(above, below);
            if (divisor > 0) {
                answer = (what == 0 ? above : below) / divisor;
            }
        }
        tape.length = 0;
        return answer;
    }

    public int whose(int what) {
        int answer = NO_ANSWER;
        if (tape.isMark() && (what == 0 || what == 1)) {
            answer = now.rises.likeliest(now.houses, tape, what == 1);
        }
        tape.length = 0;
        return answer;
    }

    public boolean owe(int a, int b, int v) {
        if (!now.houses.has(a) || !now.houses.has(b) || a == b || !isWithin(v, -MOST_OWED, MOST_OWED)) {
            return false;
        }
        now.houses.net[a] -= v;
        now.houses.net[b] += v;
        return true;
    }

    public int payments() {
        return settling.fewest(now.houses);
    }

    public boolean undo() {
        return history.bringBack(now.times);
    }

    public boolean image(boolean taken) {
        if (taken) {
            kept.copyFrom(now);
            imageTaken = true;
        } else if (imageTaken) {
            now.copyFrom(kept);
            history.forget();
        }
        return imageTaken;
    }

    public int look(int what) {
        switch (what) {
            case 0: return now.houses.count;
            case 1: return now.times.day;
            case 2: return now.times.state;
            case 3: return now.leavens.count;
            case 4: return now.rule.lines;
            case 5: return history.count;
            case 6: return now.times.lost;
            default: break;
        }
        int k = what - 10;
        return k >= 0 && k < SETTINGS ? now.settings[k] : NONE;
    }

    /** Whether all orders can be gone through, and what is asked is a sum or a place of one. */
    private boolean canSearch(int what) {
        return now.houses.count <= MOST_SEARCHED && (what == 0 || now.houses.has(what - 10));
    }

    private static boolean isWithin(int v, int least, int most) {
        return v >= least && v <= most;
    }

    private static boolean isSetting(int what, int v) {
        switch (what) {
            case POWER: return isWithin(v, 1, 99);
            case COOL: return isWithin(v, 0, 99);
            case PRICE: return isWithin(v, 0, 99);
            case SLEEP: return isWithin(v, 0, 100);
            default: return false;
        }
    }

    /** Of 0 and b it is b, so that nothing comes out as 0 and 1. */
    private static long greatestCommonDivisor(long a, long b) {
        long greater = b;
        long lesser = a;
        // A long takes fewer than a hundred steps.
        for (int step = 0; step < 100 && lesser != 0; step++) {
            long rest = greater % lesser;
            greater = lesser;
            lesser = rest;
        }
        return greater;
    }

    /** Bytes that were fed and not yet read. */
    private static final class Tape {
        final int[] bytes = new int[TAPE_BYTES];
        int length;

        void add(int v) {
            for (int shift = 24; shift >= 0 && length < TAPE_BYTES; shift -= 8) {
                bytes[length] = (v >>> shift) & 255;
                length++;
            }
        }

        boolean isMark() {
            if (length < 1 || length > MARK_LETTERS) {
                return false;
            }
            for (int i = 0; i < length; i++) {
                if (letterAt(i) < 0 || letterAt(i) >= LETTERS) {
                    return false;
                }
            }
            return true;
        }

        int letterAt(int i) {
            return bytes[i] - 'a';
        }
    }

    /** What is told of the houses, and what stays when a day is undone. */
    private static final class Houses {
        int count;
        final int[] size = new int[MOST_HOUSES];
        final int[] need = new int[MOST_HOUSES];
        final int[] minutes = new int[MOST_HOUSES];
        final int[] letters = new int[MOST_HOUSES * MARK_LETTERS];
        final int[] markLength = new int[MOST_HOUSES];
        /** Each debt is seen only in the nets of its two houses, so these alone are held. */
        final int[] net = new int[MOST_HOUSES];

        boolean has(int house) {
            return house >= 0 && house < count;
        }

        int add(int itsSize, int itsNeed, int itsMinutes, Tape mark) {
            if (count >= MOST_HOUSES || mark.length > MARK_LETTERS) {
                return NONE;
            }
            size[count] = itsSize;
            need[count] = itsNeed;
            minutes[count] = itsMinutes;
            markLength[count] = mark.length;
            for (int i = 0; i < mark.length; i++) {
                letters[count * MARK_LETTERS + i] = mark.letterAt(i);
            }
            count++;
            return count - 1;
        }

        int letterOf(int house, int k) {
            return letters[house * MARK_LETTERS + k];
        }

        void copyFrom(Houses source) {
            count = source.count;
            System.arraycopy(source.size, 0, size, 0, MOST_HOUSES);
            System.arraycopy(source.need, 0, need, 0, MOST_HOUSES);
            System.arraycopy(source.minutes, 0, minutes, 0, MOST_HOUSES);
            System.arraycopy(source.letters, 0, letters, 0, MOST_HOUSES * MARK_LETTERS);
            System.arraycopy(source.markLength, 0, markLength, 0, MOST_HOUSES);
            System.arraycopy(source.net, 0, net, 0, MOST_HOUSES);
        }
    }

    /** All that a day changes, and that goes back when it is undone. */
    private static final class Times {
        int state;
        int day;
        int lost;
        final int[] dough = new int[MOST_HOUSES];
        final int[] bread = new int[MOST_HOUSES];
        final int[] wood = new int[MOST_HOUSES];
        final int[] first = new int[MOST_HOUSES];
        final int[] mondays = new int[MOST_HOUSES];
        final int[] sour = new int[MOST_HOUSES];
        /** The book of the latest day. */
        final int[] stood = new int[MOST_HOUSES];
        int places;
        int burnt = NONE;

        int draw(int m) {
            state = 1664525 * state + 1013904223;
            return m > 0 ? (state >>> 8) % m : 0;
        }

        boolean isMonday() {
            return day % WEEK == 0;
        }

        void copyFrom(Times source) {
            state = source.state;
            day = source.day;
            lost = source.lost;
            System.arraycopy(source.dough, 0, dough, 0, MOST_HOUSES);
            System.arraycopy(source.bread, 0, bread, 0, MOST_HOUSES);
            System.arraycopy(source.wood, 0, wood, 0, MOST_HOUSES);
            System.arraycopy(source.first, 0, first, 0, MOST_HOUSES);
            System.arraycopy(source.mondays, 0, mondays, 0, MOST_HOUSES);
            System.arraycopy(source.sour, 0, sour, 0, MOST_HOUSES);
            System.arraycopy(source.stood, 0, stood, 0, MOST_HOUSES);
            places = source.places;
            burnt = source.burnt;
        }
    }

    /** All that an image holds. */
    private static final class Commons {
        final Houses houses = new Houses();
        final Times times = new Times();
        final int[] settings = {10, 1, 1, 0};
        final Rule rule = new Rule();
        final Leavens leavens = new Leavens();
        final Rises rises = new Rises();

        void copyFrom(Commons source) {
            houses.copyFrom(source.houses);
            times.copyFrom(source.times);
            System.arraycopy(source.settings, 0, settings, 0, SETTINGS);
            rule.take(source.rule.code, source.rule.length, source.rule.lines);
            leavens.copyFrom(source.leavens);
            System.arraycopy(source.rises.rise, 0, rises.rise, 0, LETTERS * LETTERS);
        }
    }

    /** The latest days, each as all was just before it. */
    private static final class History {
        final Times[] before = new Times[KEPT_DAYS];
        int oldest;
        int count;

        History() {
            for (int i = 0; i < KEPT_DAYS; i++) {
                before[i] = new Times();
            }
        }

        void keep(Times times) {
            if (count >= KEPT_DAYS) {
                oldest = (oldest + 1) % KEPT_DAYS;
                count = KEPT_DAYS - 1;
            }
            before[(oldest + count) % KEPT_DAYS].copyFrom(times);
            count++;
        }

        boolean bringBack(Times times) {
            if (count <= 0) {
                return false;
            }
            count--;
            times.copyFrom(before[(oldest + count) % KEPT_DAYS]);
            return true;
        }

        void forget() {
            count = 0;
        }
    }

    /** A rule as it is worked out: its operators stand behind what they work on. */
    private static final class Rule {
        final int[] code = new int[TAPE_BYTES];
        int length;
        int lines;

        void take(int[] source, int sourceLength, int sourceLines) {
            System.arraycopy(source, 0, code, 0, TAPE_BYTES);
            length = sourceLength;
            lines = sourceLines;
        }

        int worth(int[] facts, int[] stack) {
            int top = 0;
            for (int i = 0; i < length; i++) {
                int c = code[i];
                if (c >= 0) {
                    if (top < STACK) {
                        stack[top] = valueOf(c, facts);
                        top++;
                    }
                } else if (c == -';') {
                    return top > 0 ? stack[top - 1] : 0;
                } else if (c == -WHEN) {
                    if (top > 1 && stack[top - 1] != 0) {
                        return stack[top - 2];
                    }
                    top = 0;
                } else if (c == -NOT) {
                    if (top > 0) {
                        stack[top - 1] = 1 - stack[top - 1];
                    }
                } else if (top > 1) {
                    stack[top - 2] = apply(-c, stack[top - 2], stack[top - 1]);
                    top--;
                }
            }
            return 0;
        }

        private static int valueOf(int c, int[] facts) {
            if (c < FACT_CODE) {
                return c;
            }
            int fact = c - FACT_CODE;
            return fact < FACTS ? facts[fact] : 0;
        }

        private static int apply(int operator, int a, int b) {
            switch (operator) {
                case '+': return a + b;
                case '-': return a - b;
                case '*': return a * b;
                case '/': return b == 0 ? 0 : a / b;
                case '<': return a < b ? 1 : 0;
                case '=': return a == b ? 1 : 0;
                case '>': return a > b ? 1 : 0;
                case AND: return a & b;
                default: return a | b;
            }
        }
    }

    /** Reads the tape as a rule, token by token, up to its end or its first fault. */
    private static final class RuleReader {
        /** What may come next; what may end a sum hangs on where the sum stands. */
        private static final int LINE = 0;
        private static final int CONDITION = 1;
        private static final int OPERAND = 2;
        private static final int DIVISOR = 3;
        private static final int AFTER_WORTH = 4;
        private static final int AFTER_LEFT = 5;
        private static final int AFTER_RIGHT = 6;
        private static final int AFTER_CLOSING = 7;

        final Tape tape;
        final int[] code = new int[TAPE_BYTES];
        int codeLength;
        int lines;
        int fault;
        int faultPlace = NONE;

        private final int[] waiting = new int[STACK];
        private int waitingCount;
        private int expected;
        /** What is expected behind the operands of the sum at hand. */
        private int afterOperand;
        private int open;
        private int brackets;
        private int next;
        private int place;
        private int kind;
        private int value;

        RuleReader(Tape source) {
            tape = source;
        }

        boolean read() {
            begin();
            // Each token takes a byte at least, so the end comes in time.
            for (int i = 0; i <= tape.length; i++) {
                readToken();
                if (kind == TEXT_END && expected == LINE) {
                    return true;
                }
                fault = judge();
                if (fault != 0) {
                    faultPlace = place;
                    return false;
                }
            }
            return false;
        }

        private void begin() {
            codeLength = 0;
            lines = 0;
            fault = 0;
            faultPlace = NONE;
            waitingCount = 0;
            expected = LINE;
            afterOperand = AFTER_WORTH;
            open = 0;
            brackets = 0;
            next = 0;
        }

        private void readToken() {
            skipBlanks();
            place = next;
            if (next >= tape.length) {
                kind = TEXT_END;
            } else if (isLetter(next)) {
                readKeyword();
            } else if (isDigit(next)) {
                readNumber();
            } else {
                kind = SIGNS.indexOf((char) tape.bytes[next]) < 0 ? UNKNOWN : tape.bytes[next];
                next++;
            }
        }

        private void skipBlanks() {
            while (next < tape.length && (tape.bytes[next] == ' ' || tape.bytes[next] == 10)) {
                next++;
            }
        }

        private boolean isLetter(int i) {
            return isWithin(tape.bytes[i], 'a', 'z') || isWithin(tape.bytes[i], 'A', 'Z');
        }

        private boolean isDigit(int i) {
            return isWithin(tape.bytes[i], '0', '9');
        }

        private void readKeyword() {
            while (next < tape.length && isLetter(next)) {
                next++;
            }
            kind = UNKNOWN;
            if (next - place > KEYWORD_WIDTH) {
                return;
            }
            for (int k = 0; k < KEYWORD_COUNT; k++) {
                if (isKeyword(k)) {
                    kind = WORTH + k;
                }
            }
        }

        private boolean isKeyword(int k) {
            for (int i = 0; i < KEYWORD_WIDTH; i++) {
                int sign = place + i < next ? tape.bytes[place + i] : ' ';
                if (KEYWORDS.charAt(k * KEYWORD_WIDTH + i) != sign) {
                    return false;
                }
            }
            return true;
        }

        private void readNumber() {
            value = 0;
            while (next < tape.length && isDigit(next)) {
                value = value * 10 + tape.bytes[next] - '0';
                next++;
            }
            kind = next - place > 4 ? UNKNOWN : NUMBER;
        }

        /** Takes the token that was read, and answers its fault or 0. */
        private int judge() {
            switch (expected) {
                case LINE: return judgeLine();
                case CONDITION: return judgeCondition();
                case OPERAND: return judgeOperand();
                case DIVISOR: return judgeDivisor();
                case AFTER_CLOSING: return judgeAfterCondition();
                default: break;
            }
            if (kind == '+' || kind == '-' || kind == '*' || kind == '/') {
                takeOperator(kind == '/' ? DIVISOR : OPERAND);
                return 0;
            }
            switch (expected) {
                case AFTER_WORTH: return judgeAfterWorth();
                case AFTER_LEFT: return judgeComparison();
                default: return judgeAfterCondition();
            }
        }

        private int judgeLine() {
            if (kind != WORTH) {
                return CANNOT_STAND;
            }
            if (lines >= MOST_LINES) {
                return TOO_MANY;
            }
            lines++;
            afterOperand = AFTER_WORTH;
            expected = OPERAND;
            return 0;
        }

        private int judgeOperand() {
            if (kind == NUMBER) {
                emit(value);
            } else if (isWithin(kind, FIRST_FACT, FIRST_FACT + FACTS - 1)) {
                emit(FACT_CODE + kind - FIRST_FACT);
            } else {
                return CANNOT_STAND;
            }
            expected = afterOperand;
            return 0;
        }

        private int judgeDivisor() {
            if (kind != NUMBER) {
                return CANNOT_STAND;
            }
            return value == 0 ? PART_BY_ZERO : judgeOperand();
        }

        private int judgeAfterWorth() {
            if (kind == WHEN) {
                emitWaiting(0);
                expected = CONDITION;
                return 0;
            }
            return kind == ';' ? endLine(-';') : CANNOT_STAND;
        }

        private int judgeComparison() {
            if (kind != '<' && kind != '=' && kind != '>') {
                return CANNOT_STAND;
            }
            takeOperator(OPERAND);
            afterOperand = AFTER_RIGHT;
            return 0;
        }

        private int judgeCondition() {
            if (kind != NOT && kind != '(') {
                afterOperand = AFTER_LEFT;
                return judgeOperand();
            }
            if (open >= MOST_OPEN) {
                return TOO_MANY;
            }
            open++;
            if (kind == '(') {
                brackets++;
            }
            push(kind);
            return 0;
        }

        private int judgeAfterCondition() {
            if (kind == AND || kind == OR) {
                takeOperator(CONDITION);
                return 0;
            }
            if (kind == ')' && brackets > 0) {
                closeBracket();
                return 0;
            }
            return kind == ';' && brackets == 0 ? endLine(-WHEN) : CANNOT_STAND;
        }

        private void closeBracket() {
            emitWaiting(0);
            brackets--;
            open--;
            // What held the others back is the bracket itself.
            waitingCount = Math.max(0, waitingCount - 1);
            expected = AFTER_CLOSING;
        }

        private int endLine(int last) {
            emitWaiting(0);
            emit(last);
            expected = LINE;
            return 0;
        }

        /** The operator at hand waits for what comes behind it. */
        private void takeOperator(int then) {
            emitWaiting(bindingOf(kind));
            push(kind);
            expected = then;
        }

        /** Emits the latest waiting operators that bind as close as told; an open bracket holds. */
        private void emitWaiting(int binding) {
            while (waitingCount > 0 && waiting[waitingCount - 1] != '('
                    && bindingOf(waiting[waitingCount - 1]) >= binding) {
                waitingCount--;
                if (waiting[waitingCount] == NOT) {
                    open--;
                }
                emit(-waiting[waitingCount]);
            }
        }

        private static int bindingOf(int operator) {
            switch (operator) {
                case OR: return 1;
                case AND: return 2;
                case NOT: return 3;
                case '<':
                case '=':
                case '>': return 4;
                case '+':
                case '-': return 5;
                default: return 6;
            }
        }

        private void push(int operator) {
            if (waitingCount < STACK) {
                waiting[waitingCount] = operator;
                waitingCount++;
            }
        }

        private void emit(int c) {
            if (codeLength < TAPE_BYTES) {
                code[codeLength] = c;
                codeLength++;
            }
        }
    }

    /** Leavens, new ones and mixed ones. */
    private static final class Leavens {
        /** Every share is a whole number of this, as nothing is halved more often. */
        static final long WHOLE = 1L << MOST_MIXINGS;

        int count;
        final int[] age = new int[MOST_LEAVENS];
        final int[] owner = new int[MOST_LEAVENS];
        final int[] one = new int[MOST_LEAVENS];
        final int[] other = new int[MOST_LEAVENS];
        /** Bit k: led from leaven k. */
        final long[] ledFrom = new long[MOST_LEAVENS];
        private final long[] share = new long[MOST_LEAVENS];

        boolean has(int leaven) {
            return leaven >= 0 && leaven < count;
        }

        boolean isNew(int leaven) {
            return owner[leaven] != NONE;
        }

        int addNew(int house) {
            return add(0, house, NONE, NONE, 0L);
        }

        int addMixed(int a, int b) {
            int itsAge = 1 + Math.max(age[a], age[b]);
            return itsAge > MOST_MIXINGS ? NONE : add(itsAge, NONE, a, b, ledFrom[a] | ledFrom[b]);
        }

        private int add(int itsAge, int itsOwner, int a, int b, long itsSources) {
            if (count >= MOST_LEAVENS) {
                return NONE;
            }
            age[count] = itsAge;
            owner[count] = itsOwner;
            one[count] = a;
            other[count] = b;
            ledFrom[count] = itsSources | (1L << count);
            count++;
            return count - 1;
        }

        boolean isLed(int a, int b) {
            return ((ledFrom[a] >>> b) & 1L) != 0;
        }

        /** What part of the leaven comes from the new one, in parts of WHOLE. */
        long shareOf(int leaven, int from) {
            for (int k = 0; k <= leaven; k++) {
                if (isNew(k)) {
                    share[k] = k == from ? WHOLE : 0L;
                } else {
                    share[k] = (share[one[k]] + share[other[k]]) / 2;
                }
            }
            return share[leaven];
        }

        int ownersWithin(int leaven) {
            int owners = 0;
            for (int k = 0; k <= leaven; k++) {
                if (isNew(k) && isLed(leaven, k)) {
                    owners |= 1 << owner[k];
                }
            }
            return Integer.bitCount(owners);
        }

        void copyFrom(Leavens source) {
            count = source.count;
            System.arraycopy(source.age, 0, age, 0, MOST_LEAVENS);
            System.arraycopy(source.owner, 0, owner, 0, MOST_LEAVENS);
            System.arraycopy(source.one, 0, one, 0, MOST_LEAVENS);
            System.arraycopy(source.other, 0, other, 0, MOST_LEAVENS);
            System.arraycopy(source.ledFrom, 0, ledFrom, 0, MOST_LEAVENS);
        }
    }

    /** How the letters of marks rise into others. */
    private static final class Rises {
        final int[] rise = new int[LETTERS * LETTERS];

        Rises() {
            for (int letter = 0; letter < LETTERS; letter++) {
                rise[letter * LETTERS + letter] = MOST_RISE;
            }
        }

        /** The product of the rises into what is seen; 0 if that is not as long as the mark. */
        long above(Houses houses, int house, Tape seen) {
            if (houses.markLength[house] != seen.length) {
                return 0;
            }
            long product = 1;
            for (int i = 0; i < seen.length; i++) {
                product *= rise[houses.letterOf(house, i) * LETTERS + seen.letterAt(i)];
            }
            return product;
        }

        /** The product of all rises of the mark's letters; 1 if there is nothing above it. */
        long below(Houses houses, int house, long above) {
            if (above == 0) {
                return 1;
            }
            long product = 1;
            for (int i = 0; i < houses.markLength[house]; i++) {
                product *= allOf(houses.letterOf(house, i));
            }
            return product;
        }

        private int allOf(int letter) {
            int sum = 0;
            for (int to = 0; to < LETTERS; to++) {
                sum += rise[letter * LETTERS + to];
            }
            return sum;
        }

        /** The house with the greatest odds, or (asked whether it is told apart) 1 or 0. */
        int likeliest(Houses houses, Tape seen, boolean asksApart) {
            int best = NONE;
            boolean apart = false;
            long bestAbove = 0;
            long bestBelow = 1;
            for (int h = 0; h < houses.count; h++) {
                long above = above(houses, h, seen);
                long below = below(houses, h, above);
                int comparison = Long.compare(above * bestBelow, bestAbove * below);
                if (comparison > 0) {
                    best = h;
                    bestAbove = above;
                    bestBelow = below;
                }
                apart = comparison > 0 || (apart && comparison < 0);
            }
            if (asksApart) {
                return apart ? 1 : 0;
            }
            return best;
        }
    }

    /** The houses in a line before the oven, and what becomes of them there. */
    private static final class Lineup {
        final Commons commons;
        final int[] order = new int[MOST_HOUSES];
        final int[] found = new int[MOST_HOUSES];
        int settledCount;
        int leastWood;
        int changes;
        int circle;

        private final int[] worth = new int[MOST_HOUSES];
        private final int[] facts = new int[FACTS];
        private final int[] stack = new int[STACK];
        private final int[] loaf = new int[MOST_HOUSES];
        /** The heat that the house at a place finds. */
        private final int[] heat = new int[MOST_HOUSES + 1];
        private final boolean[] placed = new boolean[MOST_HOUSES];
        private final long[] seen = new long[MOST_CHANGES + 1];

        Lineup(Commons source) {
            commons = source;
        }

        void standForToday() {
            standByRule();
            if (commons.times.isMonday()) {
                putFirst(fewestMondays());
            }
        }

        /** The houses of a tape of digits, each once; false if it is no such tape. */
        boolean standAsTold(Tape tape) {
            if (tape.length != commons.houses.count) {
                return false;
            }
            clearPlaced();
            for (int i = 0; i < tape.length; i++) {
                int h = tape.bytes[i] - '0';
                if (!commons.houses.has(h) || placed[h]) {
                    return false;
                }
                placed[h] = true;
                order[i] = h;
            }
            return true;
        }

        private void standByRule() {
            for (int h = 0; h < commons.houses.count; h++) {
                gatherFacts(h);
                worth[h] = commons.rule.worth(facts, stack);
                int place = h;
                while (place > 0 && worth[order[place - 1]] < worth[h]) {
                    order[place] = order[place - 1];
                    place--;
                }
                order[place] = h;
            }
        }

        private void gatherFacts(int h) {
            facts[0] = commons.houses.size[h];
            facts[1] = commons.houses.need[h];
            facts[2] = commons.times.dough[h];
            facts[3] = commons.times.bread[h];
            facts[4] = commons.times.wood[h];
            facts[5] = commons.times.first[h];
            facts[6] = commons.times.sour[h];
            facts[7] = h;
            facts[8] = commons.times.day;
            facts[9] = -commons.houses.net[h];
        }

        private int fewestMondays() {
            int fewest = 0;
            for (int h = 1; h < commons.houses.count; h++) {
                if (commons.times.mondays[h] < commons.times.mondays[fewest]) {
                    fewest = h;
                }
            }
            return fewest;
        }

        private void putFirst(int house) {
            int place = 0;
            while (place < commons.houses.count && order[place] != house) {
                place++;
            }
            if (place >= commons.houses.count) {
                return;
            }
            for (int i = place; i > 0; i--) {
                order[i] = order[i - 1];
            }
            order[0] = house;
        }

        /** A day goes by: whether a loaf was burnt. */
        boolean passDay() {
            Times times = commons.times;
            int count = commons.houses.count;
            standForToday();
            weighLoaves();
            int burntPlace = drawBurntPlace();
            heat[0] = 0;
            for (int place = 0; place < count; place++) {
                bake(place, place == burntPlace);
            }
            if (count > 0) {
                times.first[order[0]]++;
            }
            if (count > 0 && times.isMonday()) {
                times.mondays[order[0]]++;
            }
            System.arraycopy(order, 0, times.stood, 0, MOST_HOUSES);
            times.places = count;
            times.burnt = burntPlace == NONE ? NONE : order[burntPlace];
            times.day++;
            return burntPlace != NONE;
        }

        private int drawBurntPlace() {
            int sleep = commons.settings[SLEEP];
            if (sleep <= 0 || commons.houses.count <= 0 || commons.times.draw(100) >= sleep) {
                return NONE;
            }
            return commons.times.draw(commons.houses.count);
        }

        private void bake(int place, boolean burnt) {
            Times times = commons.times;
            int h = order[place];
            times.wood[h] += woodOf(h, heat[place]);
            heat[place + 1] = heatAfter(h, heat[place]);
            times.dough[h] -= loaf[h];
            times.sour[h] = loaf[h] == 0 ? times.sour[h] + 1 : 0;
            if (burnt) {
                times.lost += loaf[h];
                return;
            }
            int ninth = place > 0 ? loaf[h] / 9 : 0;
            times.bread[h] += loaf[h] - ninth;
            if (place > 0) {
                times.bread[order[place - 1]] += ninth;
            }
        }

        private void weighLoaves() {
            for (int h = 0; h < commons.houses.count; h++) {
                loaf[h] = Math.min(commons.houses.size[h], commons.times.dough[h]);
            }
        }

        private int woodOf(int h, int found) {
            int lacking = commons.houses.need[h] - found;
            int power = commons.settings[POWER];
            return loaf[h] == 0 || lacking <= 0 || power <= 0 ? 0 : (lacking + power - 1) / power;
        }

        private int heatAfter(int h, int found) {
            if (loaf[h] == 0) {
                return found;
            }
            int hot = found + woodOf(h, found) * commons.settings[POWER];
            return Math.max(0, hot - commons.settings[COOL] * commons.houses.minutes[h]);
        }

        int gainOf(int house) {
            weighLoaves();
            int last = commons.houses.count - 1;
            heat[0] = 0;
            for (int place = 0; place <= last; place++) {
                if (order[place] == house) {
                    return gainAt(place, house, heat[place], place < last ? order[place + 1] : NONE);
                }
                heat[place + 1] = heatAfter(order[place], heat[place]);
            }
            return NO_FIGURE;
        }

        private int gainAt(int place, int h, int found, int behind) {
            int owed = place > 0 ? loaf[h] / 9 : 0;
            int got = behind == NONE ? 0 : loaf[behind] / 9;
            return got - owed - commons.settings[PRICE] * woodOf(h, found);
        }

        /** Whether those at a place and just behind it would change, another one (or NONE) behind them. */
        private boolean wouldChange(int place, int behind) {
            int h = order[place];
            int g = order[place + 1];
            int found = heat[place];
            return gainAt(place, g, found, h) > gainAt(place + 1, g, heatAfter(h, found), behind)
                    && gainAt(place + 1, h, heatAfter(g, found), behind) > gainAt(place, h, found, g);
        }

        void findSettled() {
            settledCount = 0;
            beginSearch();
            searchSettled(0);
        }

        /** Goes through all orders that begin as they stand before the place. */
        private void searchSettled(int place) {
            int count = commons.houses.count;
            if (place >= count) {
                noteIfSettled(count);
                return;
            }
            for (int h = 0; h < count; h++) {
                if (!placed[h] && (place < 2 || !wouldChange(place - 2, h))) {
                    step(place, h);
                    searchSettled(place + 1);
                    placed[h] = false;
                }
            }
        }

        private void noteIfSettled(int count) {
            if (count >= 2 && wouldChange(count - 2, NONE)) {
                return;
            }
            if (settledCount == 0) {
                System.arraycopy(order, 0, found, 0, MOST_HOUSES);
            }
            settledCount++;
        }

        void findLeastWood() {
            leastWood = Integer.MAX_VALUE;
            beginSearch();
            searchLeastWood(0, 0);
        }

        private void searchLeastWood(int place, int wood) {
            // An order with as much wood as an earlier one never takes its place.
            if (wood >= leastWood) {
                return;
            }
            int count = commons.houses.count;
            if (place >= count) {
                leastWood = wood;
                System.arraycopy(order, 0, found, 0, MOST_HOUSES);
                return;
            }
            for (int h = 0; h < count; h++) {
                if (!placed[h]) {
                    step(place, h);
                    searchLeastWood(place + 1, wood + woodOf(h, heat[place]));
                    placed[h] = false;
                }
            }
        }

        private void beginSearch() {
            weighLoaves();
            clearPlaced();
            heat[0] = 0;
        }

        private void clearPlaced() {
            for (int h = 0; h < MOST_HOUSES; h++) {
                placed[h] = false;
            }
        }

        private void step(int place, int h) {
            placed[h] = true;
            order[place] = h;
            heat[place + 1] = heatAfter(h, heat[place]);
        }

        void goRound() {
            changes = NONE;
            circle = 0;
            standByRule();
            weighLoaves();
            for (int made = 0; made <= MOST_CHANGES; made++) {
                seen[made] = orderAsNumber();
                for (int earlier = 0; earlier < made; earlier++) {
                    if (seen[earlier] == seen[made]) {
                        circle = made - earlier;
                        return;
                    }
                }
                int place = firstToChange();
                if (place == NONE) {
                    changes = made;
                    return;
                }
                changePlaces(place);
            }
        }

        private long orderAsNumber() {
            long number = 0;
            for (int place = 0; place < commons.houses.count; place++) {
                number = number * 10 + order[place];
            }
            return number;
        }

        private int firstToChange() {
            int count = commons.houses.count;
            heat[0] = 0;
            for (int place = 0; place < count - 1; place++) {
                if (wouldChange(place, place + 2 < count ? order[place + 2] : NONE)) {
                    return place;
                }
                heat[place + 1] = heatAfter(order[place], heat[place]);
            }
            return NONE;
        }

        private void changePlaces(int place) {
            int h = order[place];
            order[place] = order[place + 1];
            order[place + 1] = h;
        }
    }

    /** Finds the fewest payments that settle all nets. */
    private static final class Settling {
        private final int[] unsettled = new int[MOST_HOUSES];
        /** By a set of the unsettled houses: their sum, and into how many parts that settle themselves they go. */
        private final int[] sum = new int[1 << MOST_HOUSES];
        private final int[] parts = new int[1 << MOST_HOUSES];

        /** A part of k houses that settles itself takes k - 1 payments: the more parts, the fewer. */
        int fewest(Houses houses) {
            int count = 0;
            for (int h = 0; h < houses.count; h++) {
                if (houses.net[h] != 0) {
                    unsettled[count] = houses.net[h];
                    count++;
                }
            }
            int sets = 1 << count;
            for (int set = 1; set < sets; set++) {
                sum[set] = 0;
                parts[set] = 0;
                for (int i = 0; i < count; i++) {
                    if ((set & (1 << i)) != 0) {
                        int rest = set ^ (1 << i);
                        sum[set] = sum[rest] + unsettled[i];
                        parts[set] = Math.max(parts[set], parts[rest]);
                    }
                }
                if (sum[set] == 0) {
                    parts[set]++;
                }
            }
            return count - parts[sets - 1];
        }
    }
}
