/** Boundaries of promises 8 to 10 and of Terms 2: each one at its place, just within it and just beyond it. */
public final class RuleEdgesTest {
    private static final Check check = new Check();
    private static final int LOW = Integer.MIN_VALUE;
    private static final int HIGH = Integer.MAX_VALUE;
    private static final String LINE = "worth 1;";
    private static final String WHEN = "worth 1 when ";

    public static void main(String[] args) {
        promise8Empty();
        promise8TapeIsEmptyThen();
        promise8StaysAsItWas();
        promise8WholeTape();
        promise8EverySign();
        promise8Keywords();
        promise8LettersOfKeywords();
        promise8LettersTogether();
        promise8Digits();
        promise8WhatCanStand();
        promise8EndOfText();
        promise8PartByZero();
        promise8Lines();
        promise8Open();
        promise8OpenCloses();
        promise8FirstByItsPlace();
        promise8LeastAtOnePlace();
        promise8NothingIsLeftOfAFault();
        promise9OfTheLatest();
        promise9What();
        promise10Place();
        promise10Alike();
        promise10FirstLineThatIsSo();
        promise10IntsWrap();
        promise10TowardsZero();
        promise10Comparisons();
        promise10WhatBindsCloser();
        promise10Facts();
        promise10Owes();
        promise10Mondays();
        promise10FewestMondays();
        check.finish("RuleEdgesTest");
    }

    /** The lines of a good text. */
    private static void good(String text, int lines) {
        DoughDebts x = new DoughDebts();
        check.due("p8 text '" + text + "'", Check.text(x, text), lines);
        check.due("p8 no fault in '" + text + "'", x.fault(0), 0);
        check.due("p8 no place in '" + text + "'", x.fault(1), -1);
        check.due("p8 lines", x.look(4), lines);
    }

    private static void faulty(String text, int fault, int place) {
        DoughDebts x = new DoughDebts();
        check.due("p8 text '" + text + "'", Check.text(x, text), -1);
        check.due("p8 fault of '" + text + "'", x.fault(0), fault);
        check.due("p8 place in '" + text + "'", x.fault(1), place);
        check.due("p8 lines", x.look(4), 0);
    }

    private static DoughDebts withHouses(int count) {
        DoughDebts x = new DoughDebts();
        for (int h = 0; h < count; h++) Check.house(x, 10 + h, 10, 1, "a");
        return x;
    }

    /** A DAY has gone by, so that it is no MONDAY. */
    private static DoughDebts onTuesday(int count) {
        DoughDebts x = withHouses(count);
        x.days(1);
        return x;
    }

    private static void ordered(String name, DoughDebts x, String order) {
        for (int i = 0; i < order.length(); i++) check.due(name + " at " + i, x.order(i), order.charAt(i) - '0');
    }

    /** The second of two HOUSES stands first just if the condition is so. */
    private static void so(DoughDebts x, String condition, boolean want) {
        check.due("p10 text " + condition, Check.text(x, "worth house when " + condition + ";"), 1);
        check.due("p10 " + condition, x.order(0), want ? 1 : 0);
    }

    /** Terms 2: THE RULE is "empty at first", and may be so again. */
    private static void promise8Empty() {
        good("", 0);
        good(" ", 0);
        good("\n", 0);
        good(LINE, 1);
        DoughDebts x = onTuesday(2);
        check.due("p8 at first", x.look(4), 0);
        ordered("p8 at first", x, "01");
        Check.text(x, "worth house;");
        ordered("p8 one line", x, "10");
        check.due("p8 empty again", x.text(), 0);
        check.due("p8 lines", x.look(4), 0);
        ordered("p8 empty again", x, "01");
    }

    /** Promise 8: "The TAPE, empty then", with a FAULT or without. */
    private static void promise8TapeIsEmptyThen() {
        DoughDebts x = new DoughDebts();
        Check.text(x, LINE);
        check.due("p8 tape behind a rule", Check.tapeLength(x), 0);
        Check.text(x, "worth 1!" + " ".repeat(30));
        check.due("p8 tape behind a fault", Check.tapeLength(x), 0);
    }

    /** Promise 8: "NONE: a FAULT (it stays as it was)", even if some lines were good. */
    private static void promise8StaysAsItWas() {
        DoughDebts x = onTuesday(3);
        Check.text(x, "worth 1 when house=1; worth 2 when house=2;");
        ordered("p8 before", x, "210");
        check.due("p8 fault in the last line", Check.text(x, "worth 9 when house=0; worth 8; worth 7; worth 1/0;"), -1);
        check.due("p8 lines stay", x.look(4), 2);
        ordered("p8 stays", x, "210");
        check.due("p8 fault at the start", Check.text(x, "!"), -1);
        check.due("p8 lines stay still", x.look(4), 2);
        ordered("p8 stays still", x, "210");
    }

    /** A text of as many bytes as the TAPE may have. */
    private static void promise8WholeTape() {
        good("worth 0" + "+1".repeat(196) + ";", 1);
        faulty("worth 0" + "+1".repeat(196) + "+", 1, 400);
        good(" ".repeat(392) + LINE, 1);
        good(LINE + " ".repeat(392), 1);
        faulty(" ".repeat(392) + "worth 1 ", 1, 400);
        faulty(" ".repeat(399) + "!", 1, 399);
        DoughDebts x = onTuesday(2);
        Check.text(x, "worth 0" + "+1".repeat(186) + " when house=1;");
        ordered("p8 long sum", x, "10");
        so(x, "0" + "+1".repeat(180) + "=180", true);
        so(x, "0" + "+1".repeat(180) + "=181", false);
    }

    private static boolean isBlank(int sign) {
        return sign == 32 || sign == 10;
    }

    private static boolean isDigit(int sign) {
        return sign >= '0' && sign <= '9';
    }

    private static boolean isSmallLetter(int sign) {
        return sign >= 'a' && sign <= 'z';
    }

    /** Terms 2: TOKENS and "Blanks (32, 10) between": each of the 256 bytes before, within and behind a line. */
    private static void promise8EverySign() {
        for (int sign = 0; sign < 256; sign++) {
            char c = (char) sign;
            if (isBlank(sign)) {
                good(c + LINE, 1);
                good("worth" + c + "1;", 1);
                good("worth 1" + c + ";", 1);
                good(LINE + c, 1);
                continue;
            }
            faulty(c + LINE, 1, 0);
            faulty(LINE + c, 1, 8);
            if (isDigit(sign)) {
                good("worth" + c + "1;", 1);
                good("worth 1" + c + ";", 1);
                continue;
            }
            boolean goesOn = c == ';' || c == '+' || c == '-' || c == '*' || c == '/';
            faulty("worth 1" + c + ";", 1, goesOn ? 8 : 7);
            if (isSmallLetter(sign)) faulty("worth" + c + "1;", 1, 0);
            else if (sign < 'A' || sign > 'Z') faulty("worth" + c + "1;", 1, 5);
        }
    }

    /** Terms 2: "KEYWORDS (those told here)", each as it is, with a letter less and with a letter more. */
    private static void promise8Keywords() {
        for (String fact : new String[] {"size", "need", "dough", "bread", "wood", "first", "sour", "house", "day",
            "owes"}) {
            good("worth " + fact + ";", 1);
            faulty("worth " + fact.substring(1) + ";", 1, 6);
            faulty("worth " + fact.substring(0, fact.length() - 1) + ";", 1, 6);
            faulty("worth " + fact + "s;", 1, 6);
            faulty("worth " + fact.toUpperCase() + ";", 1, 6);
            faulty("worth 1/" + fact + ";", 1, 8);
        }
        for (String wrong : new String[] {"minutes", "heat", "mondays", "power", "loaf", "worth", "when", "or", "and",
            "not"}) {
            faulty("worth " + wrong + ";", 1, 6);
        }
        faulty("wort 1;", 1, 0);
        faulty("worths 1;", 1, 0);
        good("worth 1 when 1=1;", 1);
        faulty("worth 1 whe 1=1;", 1, 8);
        faulty("worth 1 whens 1=1;", 1, 8);
        good(WHEN + "1=1 or 1=1;", 1);
        faulty(WHEN + "1=1 o 1=1;", 1, 17);
        faulty(WHEN + "1=1 orr 1=1;", 1, 17);
        good(WHEN + "1=1 and 1=1;", 1);
        faulty(WHEN + "1=1 an 1=1;", 1, 17);
        faulty(WHEN + "1=1 andd 1=1;", 1, 17);
        good(WHEN + "not 1=1;", 1);
        faulty(WHEN + "no 1=1;", 1, 13);
        faulty(WHEN + "nott 1=1;", 1, 13);
    }

    /** Terms 2: each letter of a KEYWORD counts. */
    private static void promise8LettersOfKeywords() {
        String[][] rules = {{"worth", "", " 1;"}, {"when", "worth 1 ", " 1=1;"}, {"or", WHEN + "1=1 ", " 1=1;"},
            {"and", WHEN + "1=1 ", " 1=1;"}, {"not", WHEN, " 1=1;"}, {"size", "worth ", ";"}, {"need", "worth ", ";"},
            {"dough", "worth ", ";"}, {"bread", "worth ", ";"}, {"wood", "worth ", ";"}, {"first", "worth ", ";"},
            {"sour", "worth ", ";"}, {"house", "worth ", ";"}, {"day", "worth ", ";"}, {"owes", "worth ", ";"}};
        for (String[] r : rules) {
            good(r[1] + r[0] + r[2], 1);
            for (int i = 0; i < r[0].length(); i++) {
                String other = r[0].substring(0, i) + "x" + r[0].substring(i + 1);
                faulty(r[1] + other + r[2], 1, r[1].length());
            }
        }
    }

    /** Terms 2: "letters as many as stand together": digits, signs and blanks part them, nothing else. */
    private static void promise8LettersTogether() {
        good("worth1when1=1and2=2or not3=3;worth2;", 2);
        faulty("worthsize;", 1, 0);
        faulty("worth sizeneed;", 1, 6);
        faulty("worth size need;", 1, 11);
        faulty(WHEN + "notnot 1=1;", 1, 13);
        good(WHEN + "not not 1=1;", 1);
        good(WHEN + "not\nnot(1=1);", 1);
        good("worth\n\n 1\n;\n", 1);
        faulty("wor th 1;", 1, 0);
    }

    /** Terms 2: "NUMBERS of 1 to 4 digits or none". */
    private static void promise8Digits() {
        for (String number : new String[] {"0", "9", "10", "999", "0000", "0001", "1000", "9999"}) {
            good("worth " + number + ";", 1);
        }
        for (String number : new String[] {"00000", "00001", "10000", "99999", "999999999999"}) {
            faulty("worth " + number + ";", 1, 6);
            faulty("worth 1/" + number + ";", 1, 8);
            faulty(WHEN + "1=" + number + ";", 1, 15);
        }
        faulty("worth 1 1;", 1, 8);
        DoughDebts x = onTuesday(2);
        so(x, "0009=9", true);
        so(x, "9999=9998+1", true);
        so(x, "1000=999+1", true);
        so(x, "0010=10", true);
    }

    /** Behind what is begun just these TOKENS can stand: with another one the FAULT is at it. */
    private static void stands(String begun, String allowed) {
        String[] tokens = {"worth", "when", "or", "and", "not", "size", "need", "dough", "bread", "wood", "first",
            "sour", "house", "day", "owes", "7", ";", "+", "-", "*", "/", "(", ")", "<", "=", ">"};
        for (String token : tokens) {
            boolean fact = token.length() > 2 && "size need dough bread wood first sour house day owes".contains(token);
            String kind = fact || token.equals("7") ? "U" : token;
            boolean stands = (" " + allowed + " ").contains(" " + kind + " ")
                    || token.equals("7") && allowed.equals("NUMBER");
            String text = begun + token;
            if (!stands) faulty(text, 1, begun.length());
            else if (token.equals(";")) good(text, 1);
            else faulty(text, 1, text.length());
        }
    }

    /** Terms 2: "1 what can't stand there", at each place of the grammar with each TOKEN. */
    private static void promise8WhatCanStand() {
        stands("", "worth");
        stands("worth ", "U");
        stands("worth 1 ", "+ - * / when ;");
        stands("worth size ", "+ - * / when ;");
        stands("worth 1 + ", "U");
        stands("worth 1 - ", "U");
        stands("worth 1 * ", "U");
        stands("worth 1 / ", "NUMBER");
        stands("worth 1 / 2 ", "+ - * / when ;");
        stands("worth 1 ; ", "worth");
        stands(WHEN, "U not (");
        stands(WHEN + "not ", "U not (");
        stands(WHEN + "( ", "U not (");
        stands(WHEN + "1 ", "+ - * / < = >");
        stands(WHEN + "( 1 ", "+ - * / < = >");
        stands(WHEN + "1 * ", "U");
        stands(WHEN + "1 / ", "NUMBER");
        stands(WHEN + "1 / 2 ", "+ - * / < = >");
        stands(WHEN + "1 < ", "U");
        stands(WHEN + "1 = ", "U");
        stands(WHEN + "1 > ", "U");
        stands(WHEN + "1 < 2 ", "+ - * / and or ;");
        stands(WHEN + "not 1 < 2 ", "+ - * / and or ;");
        stands(WHEN + "1 < 2 + ", "U");
        stands(WHEN + "1 < 2 / ", "NUMBER");
        stands(WHEN + "( 1 < 2 ", "+ - * / and or )");
        stands(WHEN + "not ( not 1 < 2 ", "+ - * / and or )");
        stands(WHEN + "( 1 < 2 ) ", "and or ;");
        stands(WHEN + "not ( 1 < 2 ) ", "and or ;");
        stands(WHEN + "( ( 1 < 2 ) ", "and or )");
        stands(WHEN + "1 < 2 and ", "U not (");
        stands(WHEN + "1 < 2 or ", "U not (");
        stands(WHEN + "( 1 < 2 ) and 1 < 2 ", "+ - * / and or ;");
        stands(WHEN + "( 1 < 2 or 1 < 2 ", "+ - * / and or )");
    }

    /** Terms 2: "1 what can't stand there (the end: the text's length)", blanks at the end with it. */
    private static void promise8EndOfText() {
        String whole = "worth 1 + 2 when not ( 1 = 2 ) ;";
        for (int length = 1; length < whole.length(); length++) {
            String begun = whole.substring(0, length);
            // A keyword that is cut short can't stand at its own place.
            String word = begun.substring(Math.max(begun.lastIndexOf(' '), begun.lastIndexOf('\n')) + 1);
            boolean cut = "worth when not".indexOf(word) >= 0 && !word.isEmpty()
                    && !word.equals("worth") && !word.equals("when") && !word.equals("not");
            faulty(begun, 1, cut ? length - word.length() : length);
            faulty(begun + "\n ", 1, cut ? length - word.length() : length + 2);
        }
        good(whole, 1);
        faulty(LINE + "worth", 1, 13);
        faulty(LINE + "worth 1", 1, 15);
        good(LINE + "worth 1;", 2);
    }

    /** Terms 2: "2 (at the NUMBER) a part by 0". */
    private static void promise8PartByZero() {
        good("worth 1/1;", 1);
        good("worth 1/0001;", 1);
        good("worth 1/9999;", 1);
        good("worth 0/1;", 1);
        good("worth 1*0;", 1);
        faulty("worth 1/0;", 2, 8);
        faulty("worth 1/ \n00;", 2, 10);
        faulty("worth 1/000;", 2, 8);
        faulty("worth 1/0000;", 2, 8);
        faulty("worth 1/00000;", 1, 8);
        faulty("worth 1/2/0;", 2, 10);
        faulty("worth 1/2*3/0;", 2, 12);
        faulty("worth 1 when 1/0=1;", 2, 15);
        faulty("worth 1 when 1=1/0;", 2, 17);
        faulty("worth 1/0", 2, 8);
    }

    /** Terms 2: "3 (at its KEYWORD) the 17th line". */
    private static void promise8Lines() {
        good(LINE.repeat(15), 15);
        good(LINE.repeat(16), 16);
        good(LINE.repeat(16) + " \n", 16);
        faulty(LINE.repeat(17), 3, 128);
        faulty(LINE.repeat(16) + "worth", 3, 128);
        faulty(LINE.repeat(16) + "\n worth 1/0;", 3, 130);
        faulty(LINE.repeat(16) + "worths", 1, 128);
        faulty(LINE.repeat(16) + "1", 1, 128);
        faulty(LINE.repeat(18), 3, 128);
        DoughDebts x = onTuesday(2);
        String never = "worth 9 when 1=2;";
        Check.text(x, never.repeat(15) + "worth house;");
        ordered("p8 the 16th line counts", x, "10");
    }

    /** Terms 2: "(at it) the 9th ( or not that is open". */
    private static void promise8Open() {
        for (int brackets = 0; brackets <= 8; brackets++) {
            int nots = 8 - brackets;
            String eight = "not ".repeat(nots) + "(".repeat(brackets);
            String closed = "1=1" + ")".repeat(brackets) + ";";
            good(WHEN + eight + closed, 1);
            faulty(WHEN + eight + "(1=1)" + closed.substring(3), 3, 13 + eight.length());
            faulty(WHEN + eight + "not " + closed, 3, 13 + eight.length());
            String mixed = "(".repeat(brackets) + "not ".repeat(nots);
            good(WHEN + mixed + closed, 1);
            faulty(WHEN + mixed + "(", 3, 13 + mixed.length());
            faulty(WHEN + mixed + "not", 3, 13 + mixed.length());
        }
        good(WHEN + "not(".repeat(4) + "1=1" + ")".repeat(4) + ";", 1);
        faulty(WHEN + "not(".repeat(4) + "(1=1)" + ")".repeat(4) + ";", 3, 29);
    }

    /** Terms 2: only what "is open" counts: behind its ) a bracket, behind its condition a not is open no more. */
    private static void promise8OpenCloses() {
        good(WHEN + "(1=1)" + " and (1=1)".repeat(20) + ";", 1);
        good(WHEN + "not 1=1" + " or not 1=1".repeat(20) + ";", 1);
        String seven = WHEN + "(".repeat(7);
        faulty(seven + "(1=1) and (1=1) or not 1=1 and not (1=1)" + ")".repeat(7) + ";", 3, 20 + 35);
        good(seven + "(1=1) and (1=1) or not 1=1 and 1=1" + ")".repeat(7) + ";", 1);
        faulty(seven + "(1=1) and not (1=1)" + ")".repeat(7) + ";", 3, 20 + 14);
        faulty(seven + "(1=1) and ((1=1))" + ")".repeat(7) + ";", 3, 20 + 11);
        good(WHEN + "not not not not (((1=1))) and " + "(".repeat(8) + "1=1" + ")".repeat(8) + ";", 1);
        good(WHEN + "(not not 1=1) and " + "not ".repeat(8) + "1=1;", 1);
        faulty(WHEN + "(not not 1=1) and " + "not ".repeat(9) + "1=1;", 3, 31 + 32);
        // What was open in one line is not so in the next one.
        String deep = WHEN + "not ".repeat(8) + "1=1;";
        good(deep + deep, 2);
    }

    /** Terms 2: "the first by its place", whatever its number. */
    private static void promise8FirstByItsPlace() {
        faulty("worth 1/0; worth !;", 2, 8);
        faulty("worth !; worth 1/0;", 1, 6);
        faulty(LINE.repeat(15) + "worth 1/0;" + LINE, 2, 128);
        faulty(LINE.repeat(16) + LINE + "!", 3, 128);
        faulty(WHEN + "(".repeat(9) + "1/0", 3, 21);
        faulty(WHEN + "1/0=" + "(".repeat(9), 2, 15);
        faulty("worth 1+ when 12345=1/0;", 1, 9);
    }

    /** Terms 2: "at one place the least": what can't stand there is 1, be it the 9th that is open or not. */
    private static void promise8LeastAtOnePlace() {
        faulty(WHEN + "(".repeat(8) + "1=1(", 1, 24);
        faulty(WHEN + "(".repeat(8) + "1=1 not", 1, 25);
        faulty(WHEN + "(".repeat(8) + "1=(", 1, 23);
        faulty(WHEN + "(".repeat(8) + "1=not", 1, 23);
        faulty(LINE.repeat(15) + "worth 1 worth 1;", 1, 128);
        faulty(LINE.repeat(15) + "worth worth 1;", 1, 126);
        // By its digits no NUMBER, so not a part by 0.
        faulty("worth 1/00000", 1, 8);
    }

    /** Promise 8: each text is read anew, wherever the one before it broke off. */
    private static void promise8NothingIsLeftOfAFault() {
        String[] broken = {WHEN + "not not (((1=1 and 2*", WHEN + "(".repeat(9), WHEN + "not ".repeat(9), "worth 1+2*3",
            "worth 1;".repeat(17), WHEN + "1=2-", WHEN + "not 1=1",
            WHEN + "not 1=2*", WHEN + "(1=1", WHEN, "worth 1/0", "worth 1 wh", "worth 1 12345"};
        for (String text : broken) {
            DoughDebts x = onTuesday(2);
            check.due("p8 broken " + text, Check.text(x, text), -1);
            so(x, "not 1=2", true);
            Check.text(x, text);
            so(x, "2+3*4=14 and not (1=2)", true);
            Check.text(x, text);
            so(x, "1=2", false);
            Check.text(x, text);
            check.due("p8 eight are open", Check.text(x, WHEN + "(".repeat(8) + "1=1" + ")".repeat(8) + ";"), 1);
            Check.text(x, text);
            check.due("p8 sixteen lines", Check.text(x, LINE.repeat(16)), 16);
            Check.text(x, text);
            check.due("p8 a bracket too many", Check.text(x, WHEN + "1=1);"), -1);
            check.due("p8 its place", x.fault(1), 16);
            Check.text(x, text);
            check.due("p8 none", Check.text(x, ""), 0);
        }
        // An unknown word is none, whatever was read just before it.
        DoughDebts x = new DoughDebts();
        for (String text : new String[] {LINE, "", WHEN + "not", WHEN + "("}) {
            Check.text(x, text);
            check.due("p8 unknown word", Check.text(x, "foo"), -1);
            check.due("p8 its fault", x.fault(0), 1);
            check.due("p8 its place", x.fault(1), 0);
        }
        faulty(WHEN + "not foo 1=1;", 1, 17);
        faulty(WHEN + "(foo 1=1);", 1, 14);
        faulty("worth 1+foo 1;", 1, 8);
    }

    /** Promise 9: "Of the latest text()". */
    private static void promise9OfTheLatest() {
        DoughDebts x = new DoughDebts();
        check.due("p9 before any", x.fault(0), 0);
        check.due("p9 place before any", x.fault(1), -1);
        Check.text(x, "worth 1/0;");
        check.due("p9 fault", x.fault(0), 2);
        check.due("p9 place", x.fault(1), 8);
        Check.house(x, 1, 1, 1, "!");
        Check.gain(x, "!", 0);
        Check.whose(x, "!", 0);
        x.days(1);
        check.due("p9 other calls leave it", x.fault(0), 2);
        check.due("p9 other calls leave its place", x.fault(1), 8);
        Check.text(x, "!");
        check.due("p9 fault at 0", x.fault(0), 1);
        check.due("p9 place 0", x.fault(1), 0);
        Check.text(x, "");
        check.due("p9 none again", x.fault(0), 0);
        check.due("p9 no place again", x.fault(1), -1);
    }

    /** Promise 9: "NONE for another what". */
    private static void promise9What() {
        DoughDebts x = new DoughDebts();
        for (int i = 0; i < 2; i++) {
            for (int what : new int[] {LOW, -1, 2, 3, HIGH}) check.due("p9 fault " + what, x.fault(what), -1);
            Check.text(x, "worth 1/0;");
        }
    }

    /** Promise 10: "NONE if there is none such". */
    private static void promise10Place() {
        for (int count : new int[] {0, 1, 2, 9}) {
            DoughDebts x = withHouses(count);
            for (int i : new int[] {LOW, -1, count, count + 1, 9, HIGH}) check.due("p10 order " + i, x.order(i), -1);
            if (count > 0) {
                check.due("p10 first", x.order(0), 0);
                check.due("p10 last", x.order(count - 1), count - 1);
            }
        }
    }

    /** Terms 2: "of alike ones the lesser number". */
    private static void promise10Alike() {
        DoughDebts x = onTuesday(4);
        Check.text(x, "worth 5 when house=1; worth 5 when house=3; worth 6 when house=2; worth 4;");
        ordered("p10 alike", x, "2130");
        Check.text(x, "worth 5;");
        ordered("p10 all alike", x, "0123");
        Check.text(x, "worth house/2;");
        ordered("p10 alike by twos", x, "2301");
    }

    /** Terms 2: "E of the first line whose B is so, or that has none; without such 0". */
    private static void promise10FirstLineThatIsSo() {
        DoughDebts x = onTuesday(3);
        Check.text(x, "worth 1 when house=2; worth 9 when house=2; worth 5 when house=1;");
        ordered("p10 first line counts", x, "120");
        Check.text(x, "worth 3; worth 9 when house=2;");
        ordered("p10 none behind one without when", x, "012");
        Check.text(x, "worth 0-1 when house=0; worth 1 when house=2;");
        ordered("p10 0 without such", x, "210");
        Check.text(x, "worth 0 when house=2; worth 0-1;");
        ordered("p10 a worth of 0 is one", x, "201");
    }

    /** Terms 2: "Ints, which wrap": 8192 * 8192 * 32 is one more than the greatest int. */
    private static void promise10IntsWrap() {
        DoughDebts x = onTuesday(2);
        so(x, "8192*8192*32<0", true);
        so(x, "8192*8192*32-1>0", true);
        so(x, "8192*8192*16>0", true);
        so(x, "8192*8192*64=0", true);
        so(x, "0-8192*8192*32<0", true);
        so(x, "0-8192*8192*32-1>0", true);
        so(x, "8192*8192*32-1+1=8192*8192*32", true);
        so(x, "9999*9999*9999*0=0", true);
        // The least int against the greatest: their difference would wrap.
        Check.text(x, "worth 8192*8192*32 when house=0; worth 8192*8192*32-1;");
        ordered("p10 least int", x, "10");
        Check.text(x, "worth 8192*8192*32-1 when house=0; worth 8192*8192*32;");
        ordered("p10 greatest int", x, "01");
        so(x, "8192*8192*32<8192*8192*32-1", true);
        so(x, "8192*8192*32-1>8192*8192*32", true);
        so(x, "8192*8192*32>1", false);
    }

    /** Terms 2: "/ goes towards 0", told by what a HOUSE owes, which may be below 0. */
    private static void promise10TowardsZero() {
        int[] owed = {0, 1, 2, 3, 4, 5, 6, 7};
        for (int v : owed) {
            DoughDebts x = onTuesday(2);
            x.owe(0, 1, v);
            so(x, "owes/3=0-" + v / 3, true);
            so(x, "owes/1=0-" + v, true);
            so(x, "owes/9999=0", true);
            DoughDebts y = onTuesday(2);
            y.owe(1, 0, v);
            so(y, "owes/3=" + v / 3, true);
        }
        DoughDebts x = onTuesday(2);
        so(x, "8192*8192*32/2=0-8192*8192*16", true);
        so(x, "7/2*2=6", true);
        so(x, "2*7/2=7", true);
    }

    /** Terms 2: < = > just below, at and just above. */
    private static void promise10Comparisons() {
        DoughDebts x = onTuesday(2);
        String[] signs = {"<", "=", ">"};
        for (int v = 4; v <= 6; v++) {
            for (int k = 0; k < 3; k++) so(x, v + signs[k] + "5", v - 5 == k - 1);
        }
    }

    /** Terms 2: B of A, A of C, C of E, E of T, T of U: what stands deeper there binds closer. */
    private static void promise10WhatBindsCloser() {
        DoughDebts x = onTuesday(2);
        String[] are = {"not 1=2", "not not 1=1", "not not not 1=2", "not 1=1 or 1=1", "1=1 or 1=1 and 1=2",
            "1=2 and 1=2 or 1=1", "not 1=2 and 1=1", "not (1=1 and 1=2)", "not 1=2 or 1=1 and 1=2",
            "1=1 and not 1=2", "1<2 and 2>1 and 1=1", "not 2<1", "not 1>2", "2+3*4=14", "2*3+4=10", "10-2*3=4",
            "10-3-2=5", "10-3+2=9", "8/2/2=2", "7/2*2=6", "2*7/2=7", "9-8/3=7", "1<0+5", "5=2+3", "5>2*2",
            "2*3<3+4", "((1=2 or 1=1) and (1=1))"};
        for (String condition : are) so(x, condition, true);
        String[] areNot = {"not 1=1", "not 1<2", "not 2>1", "not not 2<1", "not not 1=2", "not not not 1=1",
            "not (1=1 or 1=1)", "(1=1 or 1=1) and 1=2", "not 1=1 and 1=1", "not 1=2 and 1=2",
            "1=2 or 1=1 and 1=2", "1>0+5", "1=1-1", "4>2*2", "2+3*4=20", "10-3-2=9", "7/2*2=7",
            "1=1 and not 1=1", "not (1=2 or 1=1)"};
        for (String condition : areNot) so(x, condition, false);
    }

    /** Terms 2: what each of the words of U is, by its very number. */
    private static void promise10Facts() {
        DoughDebts x = new DoughDebts();
        Check.house(x, 90, 60, 10, "a");
        Check.house(x, 45, 31, 5, "b");
        x.give(0, 990);
        x.give(1, 100);
        x.set(1, 9);
        x.owe(1, 0, 17);
        x.days(11);
        // House 1: loaves of 45, 45 and 10, then none; it stood behind house 0 on all DAYS but DAY 7.
        String[] words = {"size", "need", "dough", "bread", "wood", "first", "sour", "house", "day", "owes"};
        int[] are = {45, 31, 0, 100 - 5 - 5 - 1 + 0 + 10, 3 * 4, 1, 8, 1, 11, 17};
        for (int k = 0; k < words.length; k++) {
            so(x, words[k] + "=" + are[k], true);
            so(x, words[k] + "=" + (are[k] + 1), false);
            so(x, words[k] + ">" + are[k], false);
            so(x, words[k] + "<" + are[k], false);
        }
        x.give(1, 13);
        so(x, "dough=13", true);
        so(x, "dough=12", false);
    }

    /** Terms 2: "owes: what it owes to all others together less what they owe to it". */
    private static void promise10Owes() {
        DoughDebts x = onTuesday(3);
        x.owe(1, 0, 5);
        x.owe(1, 2, 6);
        x.owe(0, 1, 11);
        Check.text(x, "worth 1 when house=1 and owes=0;");
        ordered("p10 owes 0", x, "102");
        x.owe(1, 2, 1);
        ordered("p10 owes 1", x, "012");
        Check.text(x, "worth 1 when house=1 and owes=1; worth 2 when house=2 and owes=0-7;");
        ordered("p10 owed 7", x, "210");
    }

    /** Terms 2: "On a MONDAY (DAY 0, 7, 14, ..)", and on no day just before or behind one. */
    private static void promise10Mondays() {
        DoughDebts x = withHouses(2);
        Check.text(x, "worth house; worth 0;");
        for (int day = 0; day <= 22; day++) {
            // By THE RULE house 1 is first; on the first and third MONDAY it is house 0's turn.
            boolean turnOfNought = day % 14 == 0;
            check.due("p10 day", x.look(1), day);
            ordered("p10 day " + day, x, turnOfNought ? "01" : "10");
            x.days(1);
        }
        check.due("p10 mondays of 0", x.of(0, 7), 2);
        check.due("p10 mondays of 1", x.of(1, 7), 2);
    }

    /** Terms 2: "the HOUSE with the fewest MONDAYS (of several the least number), then all others so". */
    private static void promise10FewestMondays() {
        DoughDebts x = withHouses(3);
        Check.text(x, "worth house;");
        String[] mondays = {"021", "120", "210", "021"};
        for (String order : mondays) {
            ordered("p10 monday", x, order);
            x.days(1);
            ordered("p10 tuesday", x, "210");
            x.days(6);
        }
        // Two, one and one MONDAYS; a new HOUSE has none yet.
        Check.house(x, 1, 1, 1, "a");
        ordered("p10 a new house has the fewest", x, "3210");
        Check.text(x, "worth 0-house;");
        ordered("p10 then all others", x, "3012");
    }
}
