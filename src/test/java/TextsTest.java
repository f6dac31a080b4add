/** Both languages: what can be read, where a fault is, what sums and tests come to. */
public final class TextsTest {
    private final Checks checks = new Checks("TextsTest");

    private TextsTest() {
    }

    public static void main(String[] args) {
        TextsTest t = new TextsTest();
        t.lawFaults();
        t.orderFaults();
        t.tokens();
        t.limitsOfClauses();
        t.limitsOfParts();
        t.limitsOfBrackets();
        t.rowsOfNot();
        t.fullTape();
        t.sums();
        t.broken();
        t.tests();
        t.lawWords();
        t.clauseOrder();
        t.checks.end();
    }

    private void lawFault(String text, int place) {
        MercuryPost p = new MercuryPost();
        checks.due("law " + text, Checks.law(p, text), place < 0 ? 0 : -6);
        checks.due("fault of law " + text, p.fault(), place);
        checks.due("laws behind " + text, p.count(4), place < 0 ? 1 : 0);
    }

    private void orderFault(String text, int place) {
        MercuryPost p = new MercuryPost();
        int got = Checks.orders(p, text);
        checks.due("fault of orders " + text, p.fault(), place);
        checks.due("orders " + text + " can be read", got == -6 ? 1 : 0, place < 0 ? 0 : 1);
    }

    private void lawFaults() {
        lawFault("holds", -1);
        lawFault("stands 1", -1);
        lawFault("  stands  1  ", -1);
        lawFault("holds;holds", -1);
        lawFault("", 0);
        lawFault("    ", 4);
        lawFault(";", 0);
        lawFault("holds;", 6);
        lawFault("holds;  ", 8);
        lawFault("holds;;holds", 6);
        lawFault("holds holds", 6);
        lawFault("holds 1", 6);
        lawFault("hold", 0);
        lawFault("holdss", 0);
        lawFault("stands", 6);
        lawFault("stands if x = 1", 7);
        lawFault("stands 1 2", 9);
        lawFault("stands 1 +", 10);
        lawFault("stands + 1", 7);
        lawFault("stands - 1", 7);
        lawFault("stands 1 + * 2", 11);
        lawFault("stands 1 < 2", 9);
        lawFault("stands (1)", 7);
        lawFault("stands [1", 9);
        lawFault("stands [1)", 9);
        lawFault("stands []", 8);
        lawFault("stands [1]]", 10);
        lawFault("stands [[1]]", -1);
        lawFault("stands 1000", -1);
        lawFault("stands 1001", 7);
        lawFault("stands 00001000", -1);
        lawFault("stands 4294967297", 7);
        lawFault("stands 99999999999999999999999999999", 7);
        lawFault("stands 000000000000000000000000000000001", -1);
        lawFault("stands x y", 9);
        lawFault("stands xx", 7);
        lawFault("stands done", 7);
        lawFault("stands at 1", 7);
        lawFault("stands high 1", 12);
        lawFault("stands 1 times 2", 9);
        lawFault("pass", 0);
        lawFault("spill 0 at 1", 0);
        lawFault("stands 1 if", 11);
        lawFault("stands 1 if x", 13);
        lawFault("stands 1 if x =", 15);
        lawFault("stands 1 if x = 1", -1);
        lawFault("stands 1 if x = 1 if x = 1", 18);
        lawFault("stands 1 if x = 1 = 1", 18);
        lawFault("stands 1 if x == 1", 15);
        lawFault("stands 1 if x >= 1", 15);
        lawFault("stands 1 if x = 1 and", 21);
        lawFault("stands 1 if x = 1 and or", 22);
        lawFault("stands 1 if x = 1 not", 18);
        lawFault("holds if x = 1 or", 17);
        lawFault("holds if x = 1 or y", 19);
        lawFault("holds if x = 1 or not", 21);
        lawFault("holds if x", 10);
        lawFault("holds if (x = 1 or y = 2", 24);
        lawFault("stands 1 *", 10);
        lawFault("stands 1 /", 10);
        lawFault("stands 1 %", 10);
        lawFault("stands 1 -", 10);
        lawFault("stands [1 *]", 11);
        lawFault("stands [1 +]", 11);
        lawFault("stands 1 if not", 15);
        lawFault("stands 1 if (x) = 1", 14);
        lawFault("stands 1 if [x] = 1", -1);
        lawFault("stands 1 if (x = 1", 18);
        lawFault("stands 1 if (x = 1]", 18);
        lawFault("stands 1 if (x = 1))", 19);
        lawFault("stands 1 if (x = 1) + 1 = 2", 20);
        lawFault("stands 1 if ((x = 1) and (y = 1 or not x < 2))", -1);
        lawFault("stands 1 if ()", 13);
        lawFault("holds if holds", 9);
        lawFault("if x = 1", 0);
        lawFault("Stands 1", 0);
        lawFault("stands\t1", 6);
        lawFault("stands 1\n", 8);
        lawFault("stands 1" + (char) 0, 8);
        lawFault("stands 1 " + (char) 255, 9);
        lawFault("stands 1.5", 8);
        lawFault("stands 1 , holds", 9);
    }

    private void orderFaults() {
        orderFault("pass", -1);
        orderFault("pass times 1", -1);
        orderFault("pass times 20 if hour < 3", -1);
        orderFault("pass times 0", 11);
        orderFault("pass times 21", 11);
        orderFault("pass times 020", -1);
        orderFault("pass times x", 11);
        orderFault("pass times", 10);
        orderFault("pass times 1 + 1", 13);
        orderFault("pass times 1 times 1", 13);
        orderFault("pass if hour = 0 times 2", 17);
        orderFault("pass if", 7);
        orderFault("pass pass", 5);
        orderFault("pass 1", 5);
        orderFault("pass spill 0 at 1", 5);
        orderFault("pass;", 5);
        orderFault("holds", 0);
        orderFault("stands 1", 0);
        orderFault("spill", 5);
        orderFault("spill 1", 7);
        orderFault("spill 1 to 2", 8);
        orderFault("spill 1 at", 10);
        orderFault("spill 1 at 2", -1);
        orderFault("spill at 1 at at 2", -1);
        orderFault("spill at 1 at 2 at 3", 16);
        orderFault("spill at at 1", 9);
        orderFault("spill at 8 at 1", 9);
        orderFault("spill at 07 at 1", -1);
        orderFault("spill at [1] at 1", 9);
        orderFault("spill at 1 + 1 at 1", -1);
        orderFault("raise 1 at 2", 8);
        orderFault("raise 1 to 2", -1);
        orderFault("raise high 24 to high 0", -1);
        orderFault("raise high 25 to 1", 11);
        orderFault("raise high to 1", 11);
        orderFault("raise 1 to high", 15);
        orderFault("split 1 by 2", -1);
        orderFault("split 1 to 2", 8);
        orderFault("split x by 2", 6);
        orderFault("raise many to 1", 6);
        orderFault("raise mood to 1", 6);
        orderFault("raise cold to 1", 6);
        orderFault("raise hour + done - latest * left / read % 7 to 1", -1);
        orderFault("raise 1001 to 1", 6);
        orderFault("raise 1 to 1 if high 3 = at 3 and not (left > 1 or done < 2)", -1);
    }

    private void tokens() {
        lawFault("stands1", -1);
        lawFault("stands x+y*2;holds", -1);
        lawFault("stands 12x", 9);
        lawFault("stands 1if x=1and y=2or not(x<1)", -1);
        lawFault("standsx", 0);
        lawFault("holdsz", 0);
        lawFault("holdsa", 0);
        lawFault("holds{", 5);
        lawFault("holds`", 5);
        lawFault("stands 9:", 8);
        lawFault("stands 9/", 9);
        lawFault("stands 1 0", 9);
        lawFault("holds ifx = 1", 6);
        orderFault("spill1at2times3if 1=1", -1);
        orderFault("raise high3to at4;pass", -1);
        orderFault("passtimes 2", 0);
    }

    private static String repeat(String text, int many, String between) {
        StringBuilder all = new StringBuilder();
        for (int n = 0; n < many; n++) {
            all.append(n > 0 ? between : "").append(text);
        }
        return all.toString();
    }

    private void limitsOfClauses() {
        lawFault(repeat("holds", 12, ";"), -1);
        lawFault(repeat("holds", 13, ";"), 72);
        lawFault(repeat("holds", 12, ";") + " ; nothing", 74);
        lawFault(repeat("holds", 12, ";") + ";", 72);
        lawFault(repeat("holds", 12, ";") + ";  ", 74);
        orderFault(repeat("pass", 12, ";"), -1);
        orderFault(repeat("pass", 13, ";"), 60);
        MercuryPost p = new MercuryPost();
        checks.due("12 orders, 20 times each", Checks.orders(p, repeat("pass times 20", 12, ";")), 240);
        checks.due("count(13)", p.count(13), 240);
    }

    private void limitsOfParts() {
        String fifty = "stands " + repeat("1", 50, "+");
        lawFault(fifty, -1);
        lawFault(fifty + "+1", fifty.length() + 1);
        lawFault(fifty + "+[1]", fifty.length() + 2);
        lawFault(fifty + "+x", fifty.length() + 1);
        lawFault(fifty + "+;", fifty.length() + 1);
        lawFault(fifty + ";holds", -1);
        lawFault(fifty + ";stands 1", fifty.length() + 8);
        lawFault(fifty + " if x = 1", fifty.length() + 4);
        String twentyFive = "stands " + repeat("1", 24, "+") + "+x";
        lawFault(twentyFive + " if " + repeat("y", 24, "*") + " > 5", -1);
        lawFault(twentyFive + " if " + repeat("y", 25, "*") + " > 5", twentyFive.length() + 4 + 25 * 2 + 2);
        String orders = "raise " + repeat("high 1", 24, "+") + " to " + repeat("at 1", 25, "+");
        orderFault(orders + "+1", -1);
        orderFault(orders + "+1+at 3", orders.length() + 3);
        orderFault(orders + "+1+hour", orders.length() + 3);
        orderFault(orders + "+1 times 3", -1);
        orderFault(orders + " times 3 if 1 = 1", orders.length() + 16);
        MercuryPost p = new MercuryPost();
        Checks.law(p, "stands " + repeat("1", 49, "+") + "+x");
        p.force(0);
        checks.due("fifty parts", p.cell(3, 3), 52);
    }

    private void limitsOfBrackets() {
        String open = "[[[[[[[[";
        String shut = "]]]]]]]]";
        lawFault("stands " + open + "1" + shut, -1);
        lawFault("stands " + open + "[1]" + shut, 15);
        lawFault("stands " + open + "1" + shut + "+" + open + "2" + shut, -1);
        lawFault("holds if ((((((((1=1))))))))", -1);
        lawFault("holds if (((((((((1=1)))))))))", 17);
        lawFault("holds if ((((((((x=1 or [1]=1))))))))", 24);
        lawFault("holds if (((((((x=1 or [1]=[2])))))))", -1);
        lawFault("holds if (((((((x=1 or [[1]]=[2])))))))", 24);
        lawFault("holds if (x=1) or ((((((((1=1)))))))) and [[[[[[[[3]]]]]]]] = 3", -1);
        orderFault("raise " + open + "1" + shut + " to " + open + "[", 35);
    }

    private void rowsOfNot() {
        String nots = repeat("not", 90, " ");
        lawFault("holds if " + nots + " x = 1", -1);
        lawFault("holds if " + nots, 9 + nots.length());
        MercuryPost p = new MercuryPost();
        Checks.law(p, "holds if " + nots + " x = 1");
        Checks.law(p, "holds if " + repeat("not", 91, " ") + "(x = 1)");
        p.force(0);
        checks.due("an even row of not", p.cell(1, 4), 1);
        checks.due("an even row of not", p.cell(2, 4), 0);
        p.force(1);
        checks.due("an odd row of not", p.cell(1, 4), 0);
        checks.due("an odd row of not", p.cell(2, 4), 1);
    }

    private void fullTape() {
        String blanks = repeat(" ", 395, "");
        lawFault(blanks + "holds", -1);
        lawFault(blanks + "holdz", 395);
        lawFault("holds" + blanks, -1);
        lawFault("holds" + repeat(" ", 394, "") + ";", 400);
        lawFault(repeat(" ", 400, ""), 400);
        lawFault("stands " + repeat("0", 393, ""), -1);
        lawFault(repeat("z", 400, ""), 0);
        lawFault(repeat("(", 400, ""), 0);
        lawFault("holds if " + repeat("(", 391, ""), 17);
        lawFault("stands " + repeat("[", 393, ""), 15);
        lawFault("holds if x=1 " + repeat("or y=2 ", 24, ""), -1);
        lawFault("holds if x=1 " + repeat("and y=2 ", 25, ""), 13 + 8 * 24 + 4);
    }

    /** At 13: x 3, y 2, 7 high. */
    private static MercuryPost yard() {
        MercuryPost p = new MercuryPost();
        p.raise(13, 7);
        return p;
    }

    private void sum(String text, long due) {
        MercuryPost p = yard();
        long[] equal = {due < 0 ? -due : due, 0};
        String number = equal[0] <= 1000 ? "" + equal[0] : equal[0] / 1000 + " * 1000 + " + equal[0] % 1000;
        String test = due < 0 ? "0 - [" + number + "] = " + text : number + " = " + text;
        checks.due("law of " + text, Checks.law(p, "holds if " + test + "; stands 50 + " + text), 0);
        p.force(0);
        checks.due(text + " is " + due, p.cell(13, 4), 1);
    }

    private void sums() {
        sum("1 + 2 * 3", 7);
        sum("[1 + 2] * 3", 9);
        sum("10 - 3 - 2", 5);
        sum("10 - [3 - 2]", 9);
        sum("100 / 7 / 2", 7);
        sum("100 / [7 / 2]", 33);
        sum("100 % 7 * 3", 6);
        sum("2 * 3 % 4", 2);
        sum("7 * 7 / 10", 4);
        sum("[0 - 7] / 2", -3);
        sum("[0 - 7] % 2", -1);
        sum("7 / [0 - 2]", -3);
        sum("7 % [0 - 2]", 1);
        sum("x * 100 + y * 10 + high", 327);
        sum("1000 * 1000", 1000000);
        sum("1000 * 1000 * 1000 / 1000", 1000000);
        sum("0 - 1000 * 1000 + 5", -999995);
    }

    /** Whether a law's only clause HOLDS at 13. */
    private void holds(String test, boolean due) {
        MercuryPost p = yard();
        checks.due("law of " + test, Checks.law(p, "holds if " + test), 0);
        p.force(0);
        checks.due("holds if " + test, p.cell(13, 4), due ? 1 : 0);
    }

    private void broken() {
        String most = "1000 * 1000 * 1000";
        holds(most + " > 0", true);
        holds(most + " + 1 > 0", false);
        holds("not " + most + " + 1 > 0", false);
        holds("0 - " + most + " < 0", true);
        holds("0 - " + most + " - 1 < 0", false);
        holds(most + " * 2 / 2 > 0", false);
        holds(most + " + 1 - 1 > 0", false);
        holds("[" + most + " + 1] * 0 = 0", false);
        holds(most + " * 1000 > 0", false);
        holds("[0 - " + most + "] * [" + most + "] < 0", false);
        holds("1 / 0 = 0", false);
        holds("not 1 / 0 = 0", false);
        holds("1 % 0 = 0", false);
        holds("0 / 0 = 0", false);
        holds("1 / [x - 3] = 0 or 1 = 1", false);
        holds("1 = 1 or 1 / [x - 3] = 0", true);
        holds("1 = 2 or 1 / [x - 3] = 0", false);
        holds("not (1 = 2 or 1 / [x - 3] = 0)", false);
        holds("1 = 2 and 1 / 0 = 0", false);
        holds("not (1 = 2 and 1 / 0 = 0)", true);
        holds("1 = 1 and 1 / 0 = 0 or 1 = 1", false);
        holds("1 = 2 and 1 / 0 = 0 or 1 = 1", true);
        holds("1 = 1 or 1 / 0 = 0 and 1 = 1", true);
        holds("(1 = 1 or 1 / 0 = 0) and (1 = 2 and 2 % 0 = 1 or x = 3)", true);
        MercuryPost p = yard();
        Checks.law(p, "stands 20; stands 1 / 0; stands 30 if 1 / 0 = 1; stands 40 if x = 99");
        p.force(0);
        checks.due("broken clauses do not hold", p.cell(13, 3), 20);
        Checks.law(p, "stands 1 / 0");
        p.force(1);
        checks.due("none holds: as it is high", p.cell(13, 3), 7);
    }

    private void tests() {
        holds("x = 3", true);
        holds("x < 3", false);
        holds("x < 4", true);
        holds("x > 3", false);
        holds("x > 2", true);
        holds("not x = 3", false);
        holds("not not x = 3", true);
        holds("not x = 4 and y = 2", true);
        holds("not x = 3 and y = 2", false);
        holds("not x = 3 or y = 2", true);
        holds("not x = 3 or y = 3", false);
        holds("not (not x = 3)", true);
        holds("not (not (not x = 3)) or y = 3", false);
        holds("not (x = 3 and not y = 3) and y = 2", false);
        holds("x = 3 or y = 9 and y = 8", true);
        holds("(x = 3 or y = 9) and y = 8", false);
        holds("x = 1 and y = 2 or y = 2", true);
        holds("x = 1 or x = 2 or x = 3", true);
        holds("x = 3 and y = 2 and high = 7", true);
        holds("x = 3 and y = 2 and high = 8", false);
        holds("not (x = 3 and y = 3) and not (y = 3 or x = 2)", true);
        holds("not (x = 3 or y = 3)", false);
        holds("[x + y] * 2 = 10", true);
    }

    private void lawWords() {
        MercuryPost p = yard();
        p.terms(0, 40);
        p.terms(1, 6);
        p.terms(2, 8);
        p.spill(0, 13);
        p.spill(5, 13);
        String[] words = {"x", "y", "high", "many", "hour", "cold"};
        int[] due = {3, 2, 7, 2, 40, 6};
        for (int k = 0; k < 6; k++) {
            Checks.law(p, "stands " + words[k]);
            p.force(k);
            checks.due("stands " + words[k], p.cell(13, 3), due[k]);
        }
        MercuryPost q = yard();
        q.terms(2, 8);
        Checks.law(q, "stands mood");
        q.force(0);
        checks.due("stands mood", q.cell(0, 3), 8);
        q.door(13, 1);
        q.spill(1, 13);
        q.pass();
        Checks.law(q, "stands many + 3");
        q.force(1);
        checks.due("many: none that is READ", q.cell(13, 3), 3);
    }

    private void clauseOrder() {
        MercuryPost p = yard();
        Checks.law(p, "stands 10 if y = 2; holds if x = 3; stands 20 if x = 3; stands 30 if x = 4; holds if x = 9");
        p.force(0);
        checks.due("the last that holds", p.cell(13, 3), 20);
        checks.due("the first one alone", p.cell(12, 3), 10);
        checks.due("the other one", p.cell(4, 3), 30);
        checks.due("none", p.cell(0, 3), 0);
        checks.due("held", p.cell(13, 4), 1);
        checks.due("not held", p.cell(12, 4), 0);
    }
}
