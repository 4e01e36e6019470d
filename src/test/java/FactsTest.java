/** Promises 7 to 12, and section 2: facts, choices, what is in, and in which order. */
public final class FactsTest {
    private static final Desks DESKS = new Desks("FactsTest");

    private static final String LIBRARY = "fact price = 100; fact days = 5;\n"
            + "clause a when price > 50 needs b after c { 'A' show price; }\n"
            + "clause b optional 3 1 bars c bars a { ref a ref d }\n"
            + "clause c needs b needs b after b after a { def t use t }\n"
            + "clause d when days = 6 optional 9 2 { def t }\n"
            + "clause e when days < 6 or price < 0 needs d { if days > 5 {'long'} else {'no'} use t }";

    public static void main(String[] args) {
        facts();
        choices();
        clauses();
        whatIsIn();
        order();
        places();
        terms();
        DESKS.close();
    }

    private static void facts() {
        Desk desk = Desks.taught(LIBRARY);
        DESKS.due("fact(0)", desk.fact(0), 100);
        DESKS.due("fact(1)", desk.fact(1), 5);
        DESKS.dueIndex("fact(2)", desk, () -> desk.fact(2));
        DESKS.dueIndex("fact(-1)", desk, () -> desk.fact(-1));
        DESKS.due("setFact(0, 99999)", desk.setFact(0, 99999), 100);
        DESKS.due("setFact(0, -99999)", desk.setFact(0, -99999), 99999);
        DESKS.due("fact(0)", desk.fact(0), -99999);
        DESKS.due("fact(1)", desk.fact(1), 5);
        DESKS.dueArgument("setFact(0, 100000)", desk, () -> desk.setFact(0, 100000));
        DESKS.dueArgument("setFact(0, -100000)", desk, () -> desk.setFact(0, -100000));
        DESKS.dueArgument("setFact(0, least)", desk, () -> desk.setFact(0, Integer.MIN_VALUE));
        DESKS.dueIndex("setFact(2, 0)", desk, () -> desk.setFact(2, 0));
        DESKS.dueIndex("setFact(-1, 100000)", desk, () -> desk.setFact(-1, 100000));
        DESKS.dueIndex("setFact(2, 100000)", desk, () -> desk.setFact(2, 100000));
        DESKS.due("order", Desks.order(desk), "bcde");
        DESKS.due("setFact(0, 50)", desk.setFact(0, 50), -99999);
        DESKS.due("order", Desks.order(desk), "bcde");
        DESKS.due("setFact(0, 51)", desk.setFact(0, 51), 50);
        DESKS.due("order", Desks.order(desk), "bdeac");
    }

    private static void choices() {
        Desk desk = Desks.taught(LIBRARY);
        DESKS.due("choose(1, 0)", desk.choose(1, 0), -1);
        DESKS.due("choose(1, 1)", desk.choose(1, 1), 0);
        DESKS.due("choose(1, 1)", desk.choose(1, 1), 1);
        DESKS.due("choose(1, -1)", desk.choose(1, -1), 1);
        DESKS.due("choose(1, -1)", desk.choose(1, -1), -1);
        DESKS.dueArgument("choose(4, 2)", desk, () -> desk.choose(4, 2));
        DESKS.dueArgument("choose(4, -2)", desk, () -> desk.choose(4, -2));
        DESKS.dueIndex("choose(5, 0)", desk, () -> desk.choose(5, 0));
        DESKS.dueIndex("choose(-1, 0)", desk, () -> desk.choose(-1, 0));
        DESKS.dueIndex("choose(5, 2)", desk, () -> desk.choose(5, 2));
    }

    private static void clauses() {
        Desk desk = Desks.taught(LIBRARY);
        desk.choose(4, 1);
        desk.choose(0, 0);
        // Contract: b c d e.
        int[][] due = {
            {0, 1, 0, 0, 0, 2, 0, 4, 4},
            {-1, 1, 1, 1, 1, 0, 5, 0, 2},
            {-1, 1, 1, 2, 0, 2, 0, 3, 4},
            {-1, 0, 1, 3, 1, 0, 0, 0, 3},
            {1, 1, 1, 4, 0, 8, 0, 0, 3}};
        for (int clause = 0; clause < due.length; clause++) {
            for (int what = 0; what < 9; what++) {
                DESKS.due("clause(" + clause + ", " + what + ")", desk.clause(clause, what), due[clause][what]);
            }
        }
        desk.setFact(1, 6);
        DESKS.due("clause(3, 1)", desk.clause(3, 1), 1);
        DESKS.due("clause(4, 1)", desk.clause(4, 1), 0);
        DESKS.due("clause(4, 2)", desk.clause(4, 2), 1);
        DESKS.due("clause(4, 8)", desk.clause(4, 8), 5);
        DESKS.dueIndex("clause(5, 0)", desk, () -> desk.clause(5, 0));
        DESKS.dueIndex("clause(-1, 0)", desk, () -> desk.clause(-1, 0));
        DESKS.dueIndex("clause(0, 9)", desk, () -> desk.clause(0, 9));
        DESKS.dueIndex("clause(0, -1)", desk, () -> desk.clause(0, -1));
        Desk tenth = Desks.taught("clause x{ref l}" + "clause b{}clause c{}clause d{}clause e{}clause f{}clause g{}"
                + "clause h{}clause i{}clause j{}clause k{}clause l{ref x}");
        DESKS.due("clause(0, 8) with a ref to the 12th", tenth.clause(0, 8), 2);
        tenth.choose(11, 0);
        DESKS.due("clause(0, 8) with a ref to none", tenth.clause(0, 8), 1);
        DESKS.due("clause(11, 8) of one that is not in", tenth.clause(11, 8), 1);
    }

    private static void whatIsIn() {
        Desk desk = Desks.taught(LIBRARY);
        DESKS.due("all in", Desks.order(desk), "bdeac");
        desk.choose(4, 0);
        DESKS.due("without what e needs", Desks.order(desk), "bac");
        desk.choose(3, 1);
        DESKS.due("with d chosen, whose test does not hold", Desks.order(desk), "bdac");
        desk.choose(1, 0);
        DESKS.due("with b dropped, which a and c need", Desks.order(desk), "dac");
        desk.setFact(1, 6);
        desk.choose(3, -1);
        DESKS.due("with d free, whose test holds: it is optional", Desks.order(desk), "ac");
        desk.choose(4, -1);
        DESKS.due("with e free, whose test does not hold", Desks.order(desk), "ac");

        Desk chain = Desks.taught("clause a optional 1 1 needs b{}clause b when 1<1 needs c{}"
                + "clause c when 1<1 needs d{}clause d when 1<1 needs a{}clause e when 1<1{}");
        DESKS.due("a chain", Desks.order(chain), "");
        chain.choose(3, 1);
        DESKS.due("a chain, d chosen", Desks.order(chain), "abcd");
        chain.choose(1, 0);
        DESKS.due("a chain, d chosen and b dropped", Desks.order(chain), "ad");
        DESKS.due("its conflicts", Desks.found(chain), "2:0,1");

        tests("1<2", "2<1", "1<1");
        tests("2>1", "1>2", "1>1");
        tests("1<=2", "2<=1", "f<=2");
        tests("1<=1", "3<=f-1", "2<=1");
        tests("2>=1", "1>=2", "0>=1");
        tests("f>=3", "f>=4", "f/2>=2");
        tests("f=3", "f=4", "f=-3");
        tests("not f=4", "not f=3", "not not f=4");
        tests("1<1 or 1=1", "1<1 or 1>1", "1=1 and 1<1");
        tests("1=1 or 1=1 and 1<1", "[1=1 or 1=1] and 1<1", "1<1 and 1=1 or 1<1");
        tests("not 1<1 or 1=1", "not [1<1 or 1=1]", "not 1=1 and 1<1");
        tests("not 1<1 and 1=1", "not 1=1 or 1<1", "not [1=1 and 1=1]");
        tests("min(4,f)=3 and max(4,f)=4", "min(4,f)=4", "max(4,f)=f");
    }

    private static void tests(String holding, String failing, String failingToo) {
        Desk desk = Desks.taught("fact f=3;clause a when " + holding + "{if " + holding + "{'y'}}clause b when "
                + failing + "{}clause c when " + failingToo + "{}clause d {if " + failing + "{'y'}else{'n'}}");
        DESKS.due("what is in by " + holding + " and " + failing, Desks.order(desk), "ad");
        DESKS.due("what is written by these", Desks.written(desk), "1. y\n2. n\n");
    }

    private static void order() {
        DESKS.due("no after", Desks.order(Desks.taught("clause a{}clause b{}clause c{}")), "abc");
        DESKS.due("after one", Desks.order(Desks.taught("clause a after c{}clause b{}clause c{}")), "bca");
        DESKS.due("after two", Desks.order(Desks.taught("clause a after b after d{}clause b after c{}clause c{}clause d{}")), "cbda");
        DESKS.due("a round", Desks.order(Desks.taught("clause a after c{}clause b after a{}clause c after b{}clause d{}")), "dabc");
        DESKS.due("behind a round", Desks.order(Desks.taught("clause a after b after d{}clause b after c{}clause c after b{}clause d after c{}")), "abcd");
        DESKS.due("two rounds", Desks.order(Desks.taught("clause a after b{}clause b after a{}clause c after d after a{}clause d after c{}")), "abcd");
        Desk desk = Desks.taught("clause a after c{}clause b{}clause c after d{}clause d{}");
        DESKS.due("after a chain", Desks.order(desk), "bdca");
        desk.choose(2, 0);
        DESKS.due("after one that is not in", Desks.order(desk), "abd");
    }

    private static void places() {
        Desk desk = Desks.taught("clause a after b{}clause b{}clause c when 1<1{}");
        DESKS.due("clauseAt(1)", desk.clauseAt(1), 1);
        DESKS.due("clauseAt(2)", desk.clauseAt(2), 0);
        DESKS.dueIndex("clauseAt(0)", desk, () -> desk.clauseAt(0));
        DESKS.dueIndex("clauseAt(3)", desk, () -> desk.clauseAt(3));
        DESKS.dueIndex("clauseAt(-1)", desk, () -> desk.clauseAt(-1));
        DESKS.dueIndex("clauseAt(greatest)", desk, () -> desk.clauseAt(Integer.MAX_VALUE));
    }

    private static void terms() {
        Desk desk = Desks.taught("fact f=1;clause a after c{use z def y if f<1{use x}else{def z def z}}"
                + "clause b when f<1{def y}clause c{def z use z use z}");
        // By their first def or use in the text: z, y, x. The contract is b (not in), c, a.
        int[][] due = {{3, 3, 2}, {1, 0, 0}, {0, 0, -1}};
        for (int term = 0; term < 3; term++) {
            for (int what = 0; what < 3; what++) {
                DESKS.due("term(" + term + ", " + what + ")", desk.term(term, what), due[term][what]);
            }
        }
        desk.setFact(0, 0);
        int[][] then = {{1, 3, 2}, {2, 0, 1}, {0, 1, -1}};
        for (int term = 0; term < 3; term++) {
            for (int what = 0; what < 3; what++) {
                DESKS.due("term(" + term + ", " + what + ") then", desk.term(term, what), then[term][what]);
            }
        }
        Desk twice = Desks.taught("clause a{def t use t}clause b{def t}");
        DESKS.due("term(0, 2) of two defs", twice.term(0, 2), 0);
        DESKS.due("term(0, 0) of two defs", twice.term(0, 0), 2);
        DESKS.dueIndex("term(3, 0)", desk, () -> desk.term(3, 0));
        DESKS.dueIndex("term(-1, 0)", desk, () -> desk.term(-1, 0));
        DESKS.dueIndex("term(0, 3)", desk, () -> desk.term(0, 3));
        DESKS.dueIndex("term(0, -1)", desk, () -> desk.term(0, -1));
    }
}
