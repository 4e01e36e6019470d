/** Numbers, and section 2 of the document: for each sentence that names an edge a test of its own. */
public final class ReckoningEdgesTest {
    private static final Desks EDGES = new Desks("ReckoningEdgesTest");
    /** Sums of the language: the greatest number, and the least one. */
    private static final String GREATEST = "(32767*65536+65535)";
    private static final String LEAST = "(32768*65536)";

    public static void main(String[] args) {
        numbers();
        facts();
        whatIsIn();
        order();
        tests();
        EDGES.close();
    }

    private static void numbers() {
        EDGES.sentence("All numbers are whole and lie within 32 bits", ReckoningEdgesTest::greatestAndLeast);
        EDGES.sentence("sums .. of the language wrap around", ReckoningEdgesTest::sumsWrap);
        EDGES.sentence("differences .. of the language wrap around", ReckoningEdgesTest::differencesWrap);
        EDGES.sentence("products of the language wrap around", ReckoningEdgesTest::productsWrap);
        EDGES.sentence("\"-\" value", ReckoningEdgesTest::turnedWrap);
        EDGES.sentence("/ is cut towards 0", ReckoningEdgesTest::cutTowardsNothing);
        EDGES.sentence("a division by 0 gives 0", ReckoningEdgesTest::dividedByNothing);
        EDGES.sentence("-2147483648 / -1 gives -2147483648", ReckoningEdgesTest::leastByLess);
    }

    private static void facts() {
        EDGES.sentence("A fact has a value: the number that is told, until another one is set.", ReckoningEdgesTest::valueOfFact);
        EDGES.sentence("A clause is free (at first), chosen, or dropped.", ReckoningEdgesTest::choiceOfClause);
    }

    private static void whatIsIn() {
        EDGES.sentence("Wanted are: each chosen clause", ReckoningEdgesTest::chosenAreWanted);
        EDGES.sentence("each free clause that is not optional, if it has no test, or its test holds", ReckoningEdgesTest::freeAreWanted);
        EDGES.sentence("In are all wanted clauses, and, again and again, each clause that one which is in needs",
                ReckoningEdgesTest::againAndAgain);
        EDGES.sentence("unless it is dropped (whatever its test)", ReckoningEdgesTest::unlessDropped);
    }

    private static void order() {
        EDGES.sentence("of those in and not placed yet whose after-clauses .. that are in are all placed, the one with the smallest number",
                ReckoningEdgesTest::smallestNumber);
        EDGES.sentence("(those behind an after of theirs) that are in", ReckoningEdgesTest::afterOneNotIn);
        EDGES.sentence("if there is none, of all that are not placed yet the one with the smallest number", ReckoningEdgesTest::rounds);
        EDGES.sentence("The number of a clause in the contract is its place, from 1.", ReckoningEdgesTest::placesFromOne);
    }

    private static void tests() {
        EDGES.sentence("\"<\" | \">\" | \"=\" | \"<=\" | \">=\"", ReckoningEdgesTest::comparisons);
        EDGES.sentence("Both sides of and and or are reckoned", ReckoningEdgesTest::bothSides);
        EDGES.sentence("and binds more than or, not more than and", ReckoningEdgesTest::binding);
    }

    private static void shown(String sum, String due) {
        EDGES.due("show " + sum + ";", Desks.contract("clause a{show " + sum + ";}"), "1. " + due + "\n");
    }

    // ---- numbers

    private static void greatestAndLeast() {
        shown(GREATEST, "2147483647");
        shown(LEAST, "-2147483648");
        shown(GREATEST + "-1", "2147483646");
        shown(LEAST + "+1", "-2147483647");
        shown("min(" + GREATEST + "," + LEAST + ")", "-2147483648");
        shown("max(" + GREATEST + "," + LEAST + ")", "2147483647");
        EDGES.dueOrder("clause a when " + LEAST + "<" + GREATEST + "{}clause b when " + GREATEST + "<" + LEAST + "{}"
                + "clause c when " + GREATEST + ">=" + LEAST + "{}", "ac");
    }

    private static void sumsWrap() {
        shown(GREATEST + "+0", "2147483647");
        shown(GREATEST + "+1", "-2147483648");
        shown(GREATEST + "+" + GREATEST, "-2");
        shown(LEAST + "+0", "-2147483648");
        shown(LEAST + "+-1", "2147483647");
        shown(LEAST + "+" + LEAST, "0");
        // Each sum on the way wraps around, not only what is shown.
        shown("(" + GREATEST + "+1)/2", "-1073741824");
        EDGES.dueOrder("clause a when " + GREATEST + "+1<0{}clause b when " + GREATEST + "+0<0{}", "a");
    }

    private static void differencesWrap() {
        shown(LEAST + "-0", "-2147483648");
        shown(LEAST + "-1", "2147483647");
        shown(GREATEST + "--1", "-2147483648");
        shown("0-" + LEAST, "-2147483648");
        shown("-1-" + LEAST, "2147483647");
        shown("0-" + GREATEST + "-1", "-2147483648");
        shown("0-" + GREATEST + "-2", "2147483647");
        shown("(" + LEAST + "-1)/2", "1073741823");
    }

    private static void productsWrap() {
        shown("46340*46340", "2147395600");
        shown("46341*46341", "-2147479015");
        shown("32767*65536", "2147418112");
        shown("32768*65536", "-2147483648");
        shown("65536*65535", "-65536");
        shown("65536*65536", "0");
        shown("99999*99999", "1409865409");
        shown("-32768*65536", "-2147483648");
        shown("-32769*65536", "2147418112");
        shown(LEAST + "*-1", "-2147483648");
        shown("65536*65536/65536", "0");
    }

    private static void turnedWrap() {
        shown("-" + LEAST, "-2147483648");
        shown("-" + GREATEST, "-2147483647");
        shown("-(-" + GREATEST + ")", "2147483647");
        shown("-0", "0");
    }

    private static void cutTowardsNothing() {
        shown("6/3", "2");
        shown("8/3", "2");
        shown("-8/3", "-2");
        shown("8/-3", "-2");
        shown("-8/-3", "2");
        shown("1/2", "0");
        shown("-1/2", "0");
        shown("1/-2", "0");
        shown(LEAST + "/2", "-1073741824");
        shown(GREATEST + "/-2", "-1073741823");
        shown("(0-7)/2", "-3");
    }

    private static void dividedByNothing() {
        shown("7/0", "0");
        shown("-7/0", "0");
        shown("0/0", "0");
        shown(LEAST + "/0", "0");
        shown("7/(3-3)", "0");
        shown("7/0+5", "5");
        shown("0/7", "0");
        shown("7/1", "7");
        shown("7/-1", "-7");
        EDGES.dueWritten("fact f=0;clause a when 9/f=0{show 9/f;if 9/f<1{'y'}}", "1. 0y\n");
    }

    private static void leastByLess() {
        shown(LEAST + "/-1", "-2147483648");
        shown("(" + LEAST + "+1)/-1", "2147483647");
        shown(LEAST + "/1", "-2147483648");
        shown(LEAST + "/-2", "1073741824");
        shown(GREATEST + "/-1", "-2147483647");
    }

    // ---- facts and choices

    private static void valueOfFact() {
        Desk desk = Desks.taught("fact f=0;fact g=99999;clause a{show f;' 'show g;}");
        EDGES.due("values", desk.fact(0) + " " + desk.fact(1), "0 99999");
        EDGES.due("the contract", Desks.written(desk), "1. 0 99999\n");
        desk.setFact(0, -99999);
        EDGES.due("values", desk.fact(0) + " " + desk.fact(1), "-99999 99999");
        EDGES.due("the contract", Desks.written(desk), "1. -99999 99999\n");
        desk.setFact(0, 0);
        EDGES.due("values", desk.fact(0) + " " + desk.fact(1), "0 99999");
        EDGES.due("the contract", Desks.written(desk), "1. 0 99999\n");
    }

    private static void choiceOfClause() {
        Desk desk = Desks.taught("clause a{}clause b optional 1 1{}clause c when 1<1{}");
        for (int clause = 0; clause < 3; clause++) {
            EDGES.due("the choice of clause " + clause, desk.clause(clause, 0), -1);
        }
        desk.choose(1, 1);
        desk.choose(2, 0);
        EDGES.due("choices", desk.clause(0, 0) + " " + desk.clause(1, 0) + " " + desk.clause(2, 0), "-1 1 0");
    }

    // ---- what is in

    /** A clause that is optional or not, and has no test, one that holds, or one that does not hold. */
    private static void dueIn(String head, int choice, boolean due) {
        Desk desk = Desks.taught("clause a " + head + "{}");
        desk.choose(0, choice);
        EDGES.due("clause(0, 2) of <" + head + "> with the choice " + choice, desk.clause(0, 2), due ? 1 : 0);
    }

    private static void chosenAreWanted() {
        for (String head : new String[] {"", "when 1<2", "when 2<1"}) {
            dueIn(head, 1, true);
            dueIn(head + " optional 1 1", 1, true);
            dueIn(head, 0, false);
            dueIn(head + " optional 1 1", 0, false);
        }
    }

    private static void freeAreWanted() {
        dueIn("", -1, true);
        dueIn("when 1<2", -1, true);
        dueIn("when 2<1", -1, false);
        dueIn("optional 1 1", -1, false);
        dueIn("when 1<2 optional 1 1", -1, false);
        dueIn("when 2<1 optional 1 1", -1, false);
    }

    /** Sixteen clauses of which each one needs the next, or the one ahead; only one is wanted at first. */
    private static String chain(int step, int wanted) {
        StringBuilder text = new StringBuilder();
        for (int i = 0; i < 16; i++) {
            text.append("clause c").append(i).append(i == wanted ? "" : " when 1<1");
            if (i + step >= 0 && i + step < 16) {
                text.append(" needs c").append(i + step);
            }
            text.append("{}");
        }
        return text.toString();
    }

    private static void againAndAgain() {
        EDGES.dueOrder(chain(1, 0), "abcdefghijklmnop");
        EDGES.dueOrder(chain(-1, 15), "abcdefghijklmnop");
        EDGES.dueOrder(chain(1, 15), "p");
        EDGES.dueOrder(chain(-1, 0), "a");
        EDGES.dueOrder(chain(-1, 8), "abcdefghi");
        EDGES.dueOrder("clause a needs b{}clause b when 1<1 optional 1 1 needs c{}clause c optional 1 1{}clause d optional 1 1{}", "abc");
        EDGES.dueOrder("clause a when 1<1 needs b{}clause b when 1<1 needs a{}", "");
        EDGES.dueOrder("clause a needs b{}clause b when 1<1 needs a{}", "ab");
    }

    private static void unlessDropped() {
        Desk desk = Desks.taught("clause a needs b needs d{}clause b when 1<1 needs c{}clause c when 1<1{}clause d when 1<2{}");
        EDGES.due("all", Desks.order(desk), "abcd");
        desk.choose(1, 0);
        EDGES.due("b dropped, and with it c", Desks.order(desk), "ad");
        desk.choose(3, 0);
        EDGES.due("b and d dropped", Desks.order(desk), "a");
        desk.choose(1, 1);
        EDGES.due("b chosen and d dropped", Desks.order(desk), "abc");
        desk.choose(0, 0);
        desk.choose(1, -1);
        EDGES.due("a dropped, b and c free", Desks.order(desk), "");
        Desk last = Desks.taught(chain(1, 0));
        last.choose(15, 0);
        EDGES.due("a chain, its last one dropped", Desks.order(last), "abcdefghijklmno");
        last.choose(1, 0);
        EDGES.due("a chain, its second one dropped", Desks.order(last), "a");
    }

    // ---- order

    private static void smallestNumber() {
        EDGES.dueOrder("clause a{}clause b{}clause c{}", "abc");
        EDGES.dueOrder("clause a after b{}clause b{}clause c{}", "bac");
        EDGES.dueOrder("clause a after c{}clause b{}clause c{}", "bca");
        EDGES.dueOrder("clause a{}clause b after d{}clause c{}clause d after c{}", "acdb");
        EDGES.dueOrder("clause a after b after c after d{}clause b{}clause c{}clause d{}", "bcda");
        StringBuilder reversed = new StringBuilder();
        for (int i = 0; i < 16; i++) {
            reversed.append("clause c").append(i).append(i < 15 ? " after c" + (i + 1) : "").append("{}");
        }
        EDGES.dueOrder(reversed.toString(), "ponmlkjihgfedcba");
    }

    private static void afterOneNotIn() {
        EDGES.dueOrder("clause a after b{}clause b when 1<1{}clause c{}", "ac");
        EDGES.dueOrder("clause a after b after c{}clause b optional 1 1{}clause c{}", "ca");
        EDGES.dueOrder("clause a after b{}clause b optional 1 1{}clause c{}", "ac");
        Desk desk = Desks.taught("clause a after c{}clause b{}clause c{}");
        EDGES.due("all", Desks.order(desk), "bca");
        desk.choose(2, 0);
        EDGES.due("c dropped", Desks.order(desk), "ab");
    }

    private static void rounds() {
        EDGES.dueOrder("clause a after b{}clause b after a{}", "ab");
        EDGES.dueOrder("clause a after b{}clause b after c{}clause c after a{}", "acb");
        EDGES.dueOrder("clause a after b{}clause b after a{}clause c{}", "cab");
        // The one with the smallest number is in no round itself.
        EDGES.dueOrder("clause a after b{}clause b after c{}clause c after b{}", "abc");
        EDGES.dueOrder("clause a{}clause b after d{}clause c after d{}clause d after c{}", "abcd");
        // The round ends where the first of them is placed.
        EDGES.dueOrder("clause a after c{}clause b after a{}clause c after b{}clause d after b{}", "abcd");
        StringBuilder all = new StringBuilder();
        for (int i = 0; i < 16; i++) {
            all.append("clause c").append(i).append(" after c").append((i + 1) % 16).append("{}");
        }
        EDGES.dueOrder(all.toString(), "aponmlkjihgfedcb");
    }

    private static void placesFromOne() {
        Desk desk = Desks.taught("clause a after b{}clause b{ref a}clause c when 1<1{}");
        EDGES.due("clause(0, 3)", desk.clause(0, 3), 2);
        EDGES.due("clause(1, 3)", desk.clause(1, 3), 1);
        EDGES.due("clause(2, 3)", desk.clause(2, 3), 0);
        EDGES.due("clauseAt(1)", desk.clauseAt(1), 1);
        EDGES.due("clauseAt(2)", desk.clauseAt(2), 0);
        EDGES.dueIndex("clauseAt(0)", desk, () -> desk.clauseAt(0));
        EDGES.dueIndex("clauseAt(3)", desk, () -> desk.clauseAt(3));
        EDGES.due("the contract", Desks.written(desk), "1. 2\n2. \n");
    }

    // ---- tests

    private static void dueHolds(String test, boolean due) {
        Desk desk = Desks.taught("fact f=5;clause a when " + test + "{}clause b{if " + test + "{'y'}else{'n'}}");
        EDGES.due("clause(0, 1) of " + test, desk.clause(0, 1), due ? 1 : 0);
        EDGES.due("the contract by " + test, Desks.written(desk), due ? "1. \n2. y\n" : "1. n\n");
    }

    private static void comparisons() {
        String[] signs = {"<", ">", "=", "<=", ">="};
        boolean[][] due = {{true, false, false}, {false, false, true}, {false, true, false}, {true, true, false}, {false, true, true}};
        String[] lefts = {"4", "5", "6"};
        for (int i = 0; i < signs.length; i++) {
            for (int j = 0; j < lefts.length; j++) {
                dueHolds(lefts[j] + signs[i] + "f", due[i][j]);
                dueHolds("f" + signs[i] + lefts[lefts.length - 1 - j], due[i][j]);
                dueHolds("not " + lefts[j] + signs[i] + "f", !due[i][j]);
                dueHolds("-" + lefts[lefts.length - 1 - j] + signs[i] + "-f", due[i][j]);
            }
        }
    }

    private static void bothSides() {
        for (int sides = 0; sides < 4; sides++) {
            boolean left = (sides & 1) != 0;
            boolean right = (sides & 2) != 0;
            String both = (left ? "1<f" : "f<1") + " # " + (right ? "1/0=0" : "1/0=1");
            dueHolds(both.replace("#", "and"), left && right);
            dueHolds(both.replace("#", "or"), left || right);
        }
        // Those that hold first; a test that holds is as good as any other one.
        String[] holding = {"1<f", "f>1", "f=5", "5<=f", "f>=5", "not f<1", "[1<f]"};
        String[] failing = {"f<1", "1>f", "f=4", "f<=4", "4>=f", "not 1<f", "[f<1]"};
        for (int i = 0; i < holding.length; i++) {
            for (int j = 0; j < holding.length; j++) {
                dueHolds(holding[i] + " and " + holding[j], true);
                dueHolds(holding[i] + " and " + failing[j], false);
                dueHolds(failing[i] + " or " + holding[j], true);
                dueHolds(failing[i] + " or " + failing[j], false);
            }
        }
    }

    private static void binding() {
        String yes = "1<2";
        String no = "2<1";
        dueHolds(yes + " or " + yes + " and " + no, true);
        dueHolds("[" + yes + " or " + yes + "] and " + no, false);
        dueHolds(no + " and " + yes + " or " + yes, true);
        dueHolds(no + " and [" + yes + " or " + yes + "]", false);
        dueHolds("not " + no + " and " + no, false);
        dueHolds("not [" + no + " and " + no + "]", true);
        dueHolds("not " + yes + " or " + yes, true);
        dueHolds("not [" + yes + " or " + yes + "]", false);
        dueHolds("not not " + yes + " and " + no, false);
    }
}
