/** Promises 8 to 10: text, fault, order. */
public final class RuleTest {
    private static final Check check = new Check();

    public static void main(String[] args) {
        lines();
        faults();
        bounds();
        staysAfterFault();
        orders();
        meaning();
        owes();
        mondays();
        check.finish("RuleTest");
    }

    private static void lines() {
        DoughDebts x = new DoughDebts();
        check.due("empty", Check.text(x, ""), 0);
        check.due("blanks", Check.text(x, " \n \n"), 0);
        check.due("one", Check.text(x, "worth 0;"), 1);
        check.due("no blanks", Check.text(x, "worth 1when 1<2and not(1=2or 3>2);worth size*2/3-need+0;"), 2);
        check.due("blanks between", Check.text(x, "\n worth\n1 + 2 ;\n worth day when day = 9999 ; \n"), 2);
        check.due("lines", x.look(4), 2);
        check.due("tape behind", Check.tapeLength(x), 0);
        check.due("all facts", Check.text(x,
                "worth size+need+dough+bread+wood+first+sour+house+day+owes;"), 1);
    }

    /** The text's fault and its place. */
    private static void fault(String text, int number, int place) {
        DoughDebts x = new DoughDebts();
        check.due("text '" + text + "'", Check.text(x, text), -1);
        check.due("fault of '" + text + "'", x.fault(0), number);
        check.due("place in '" + text + "'", x.fault(1), place);
        check.due("other what", x.fault(2), -1);
        check.due("lines", x.look(4), 0);
        check.due("tape", Check.tapeLength(x), 0);
    }

    private static void faults() {
        fault("worth", 1, 5);
        fault("worth  ", 1, 7);
        fault("worth 1", 1, 7);
        fault("worth 1 \n", 1, 9);
        fault(";", 1, 0);
        fault("  worths 1;", 1, 2);
        fault("worth1;;", 1, 7);
        fault("Worth 1;", 1, 0);
        fault("worth 12345;", 1, 6);
        fault("worth 1/00000;", 1, 8);
        fault("worth 1/0000;", 2, 8);
        fault("worth 1/ 0", 2, 9);
        fault("worth 1/size;", 1, 8);
        fault("worth 1*/2;", 1, 8);
        fault("worth (1);", 1, 6);
        fault("worth -1;", 1, 6);
        fault("worth 1 when;", 1, 12);
        fault("worth 1 when size;", 1, 17);
        fault("worth 1 when 1=(2);", 1, 15);
        fault("worth 1 when 1=2=3;", 1, 16);
        fault("worth 1 when 1=2);", 1, 16);
        fault("worth 1 when (1=2;", 1, 17);
        fault("worth 1 when (1=2)+1;", 1, 18);
        fault("worth 1 when (1=2)<1;", 1, 18);
        fault("worth 1 when (1=2) not 1=1;", 1, 19);
        fault("worth 1 when (1)=1;", 1, 15);
        fault("worth 1 when 1=1 when 1=1;", 1, 17);
        fault("worth 1 and 1=1;", 1, 8);
        fault("worth 1 < 1;", 1, 8);
        fault("worth 1 when or 1=1;", 1, 13);
        fault("worth 1 when 1=1 and;", 1, 20);
        fault("worth 1 when not;", 1, 16);
        fault("worth 1 when ();", 1, 14);
        fault("worth 1\t;", 1, 7);
        fault("worth 1.5;", 1, 7);
        fault("worth 1 2;", 1, 8);
        fault("worth mondays;", 1, 6);
        fault("worth worth;", 1, 6);
        fault("worth 1 when 1=1)", 1, 16);
        // The first by its place counts, whatever its number.
        fault("worth 1/0 when (((((((((1=1;", 2, 8);
        fault("worth 1 when (((((((((1/0", 3, 21);
        fault("worth ! 1/0;", 1, 6);
    }

    private static void bounds() {
        String line = "worth 1;";
        DoughDebts x = new DoughDebts();
        check.due("16 lines", Check.text(x, line.repeat(16)), 16);
        fault(line.repeat(17), 3, 128);
        fault(line.repeat(16) + " worth", 3, 129);
        fault(line.repeat(16) + ";", 1, 128);
        check.due("8 not", Check.text(x, "worth 1 when " + "not ".repeat(8) + "1=1;"), 1);
        fault("worth 1 when " + "not ".repeat(9) + "1=1;", 3, 45);
        check.due("8 (", Check.text(x, "worth 1 when " + "(".repeat(8) + "1=1" + ")".repeat(8) + ";"), 1);
        fault("worth 1 when " + "(".repeat(9) + "1=1", 3, 21);
        fault("worth 1 when " + "not(".repeat(4) + "not 1=1", 3, 29);
        fault("worth 1 when 1=1 or " + "(not ".repeat(4) + "(1=1", 3, 40);
        check.due("closed ones don't count", Check.text(x, "worth 1 when " + "not 1=1 and (1=1) or ".repeat(9)
                + "not not not not not not not not 1=1;"), 1);
        check.due("a not is closed behind its bracket", Check.text(x,
                "worth 1 when not not not not not not not (1=1) and ((((((((1=1))))))));"), 1);
        check.due("four digits", Check.text(x, "worth 9999;"), 1);
        check.due("400 bytes", Check.text(x, "worth 1" + "+1".repeat(196) + ";"), 1);
    }

    private static void staysAfterFault() {
        DoughDebts x = three();
        Check.text(x, "worth house;");
        check.due("faulty", Check.text(x, "worth 0-house; worth;"), -1);
        check.due("stays", x.look(4), 1);
        check.due("order stays", x.order(1), 2);
        check.due("good again", Check.text(x, "worth 0-house;"), 1);
        check.due("fault gone", x.fault(0), 0);
        check.due("place gone", x.fault(1), -1);
    }

    private static DoughDebts three() {
        DoughDebts x = new DoughDebts();
        Check.house(x, 90, 50, 10, "a");
        Check.house(x, 45, 30, 5, "b");
        Check.house(x, 60, 70, 1, "c");
        return x;
    }

    private static void ordered(DoughDebts x, String order) {
        for (int i = 0; i < order.length(); i++) check.due("order " + i, x.order(i), order.charAt(i) - '0');
        check.due("order beyond", x.order(order.length()), -1);
        check.due("order before", x.order(-1), -1);
        check.due("order lowest", x.order(Integer.MIN_VALUE), -1);
    }

    private static void orders() {
        DoughDebts x = three();
        ordered(x, "012");
        x.days(1);
        ordered(x, "012");
        byRule(x, "worth size;", "021");
        byRule(x, "worth need;", "201");
        byRule(x, "worth 0-size;", "120");
        byRule(x, "worth 5 when house=1;", "102");
        byRule(x, "worth 0-5 when house=1;", "021");
        byRule(x, "worth 1 when house=9; worth house when size<80; worth 9;", "021");
        byRule(x, "", "012");
    }

    private static void byRule(DoughDebts x, String rule, String order) {
        Check.text(x, rule);
        ordered(x, order);
    }

    /** House 1 stands first just if the condition or the worth is as it should be. */
    private static void meaning() {
        DoughDebts x = three();
        x.days(1);
        String[] so = {"1=1", "1<2", "2>1", "not 1=2", "not not 1=1", "1=2 or 1=1 and 1=1", "1=1 or 1=1 and 1=2",
            "not 1=2 and 1=1", "not (1=1 and 1=2)", "(1=2 or 1=1) and 1=1", "2+3*4=14", "2*3+4=10", "10-3-2=5",
            "7/2=3", "7/2*2=6", "2*7/2=7", "0-7/2=0-3", "8/2/2=2", "1+1<1*3", "size=45 and need=30 and house=1",
            "day=1 and first=0 and sour=1 and bread=0 and wood=0 and dough=0", "not 1=2 or 1=1 and 1=2",
            "9999*9999*9999<0", "0-9999*9999*22>0", "00=0000"};
        for (String s : so) byRule(x, "worth 1 when house=1 and (" + s + ");", "102");
        String[] not = {"1=2", "2<1", "1>1", "1<1", "not 1=1", "not not not 1=1", "1=2 or 1=2", "1=1 and 1=2",
            "(1=1 or 1=1) and 1=2", "not (1=2 or 1=1)", "1=2 and 1=1 or 1=2", "0-7/2=0-4"};
        for (String s : not) byRule(x, "worth 1 when house=1 and (" + s + ");", "012");
        byRule(x, "worth 1 when not house=1 or 1=2;", "021");
        // (0-7)/2 can't be written, but dough can't be below 0 either: owes can.
        x.owe(0, 1, 7);
        byRule(x, "worth 1 when house=1 and owes/2=0-3;", "102");
    }

    private static void owes() {
        DoughDebts x = three();
        x.days(1);
        x.owe(1, 0, 10);
        x.owe(1, 2, 5);
        x.owe(0, 2, 40);
        // owes: house 0 has 40 - 10, house 1 has 15, house 2 has -45.
        byRule(x, "worth owes;", "012");
        byRule(x, "worth 0-owes;", "210");
        byRule(x, "worth 1 when owes=15;", "102");
        byRule(x, "worth 1 when owes=0-45;", "201");
        byRule(x, "worth 1 when owes=30 and house=0; worth 2;", "120");
    }

    private static void mondays() {
        DoughDebts x = three();
        Check.text(x, "worth house;");
        ordered(x, "021");
        x.days(1);
        ordered(x, "210");
        x.days(6);
        ordered(x, "120");
        x.days(7);
        ordered(x, "210");
        x.days(7);
        ordered(x, "021");
        check.due("mondays of 2", x.of(2, 7), 1);
        check.due("first of 2", x.of(2, 6), 6 * 3 + 1);
    }
}
