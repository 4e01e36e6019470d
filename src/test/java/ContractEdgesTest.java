/** Section 3 of the document, and the worth: for each sentence that names an edge a test of its own. */
public final class ContractEdgesTest {
    private static final Desks EDGES = new Desks("ContractEdgesTest");
    private static final String FORTY = "abcdefghij".repeat(4);

    public static void main(String[] args) {
        items();
        bounds();
        conflicts();
        worth();
        EDGES.close();
    }

    private static void items() {
        EDGES.sentence("the clauses that are in, in their order, each one so: its number, a dot, a blank, its items, a line end (10)",
                ContractEdgesTest::clausesWritten);
        EDGES.sentence("a string its bytes", ContractEdgesTest::stringsWritten);
        EDGES.sentence("a ref the number of that clause, or ? if it is not in", ContractEdgesTest::refsWritten);
        EDGES.sentence("a def the name of the term between two signs \" (34)", ContractEdgesTest::defsWritten);
        EDGES.sentence("a use the name of the term with its first letter as a capital one", ContractEdgesTest::usesWritten);
        EDGES.sentence("a show its number (with - in front, if it is less than 0)", ContractEdgesTest::numbersWritten);
        EDGES.sentence("an if the items of its first block, if the test holds, otherwise those of the second one, if there is one",
                ContractEdgesTest::blocksWritten);
        EDGES.sentence("points for each point a blank, (, its number from 1, ), a blank, and its items", ContractEdgesTest::pointsWritten);
    }

    private static void bounds() {
        EDGES.sentence("The contract has at most 6000 bytes; what would be beyond is not written.", ContractEdgesTest::longContracts);
        EDGES.sentence("Items are shown, if they are written so", ContractEdgesTest::shownItems);
        EDGES.sentence("At most 60 are told", ContractEdgesTest::mostConflicts);
        EDGES.sentence("each one is a kind, a clause, and another number", ContractEdgesTest::partsOfConflicts);
    }

    private static void conflicts() {
        EDGES.sentence("for each clause of the contract, in their order, first those of kind 1, then of 2, then of 3, then, "
                + "item by item as they are shown, those of the kinds 4 to 7", ContractEdgesTest::orderOfConflicts);
        EDGES.sentence("at last those of kind 8, by terms", ContractEdgesTest::lastConflicts);
        EDGES.sentence("Kind 1: for each bars of it, as they are told, a clause that is in: that clause.", ContractEdgesTest::kindOne);
        EDGES.sentence("Kind 2: for each needs of it, one that is not in: that one.", ContractEdgesTest::kindTwo);
        EDGES.sentence("Kind 3: for each after of it, one that is in, and has a greater number in the contract: that one.",
                ContractEdgesTest::kindThree);
        EDGES.sentence("Kind 4: a ref to a clause that is not in: that clause.", ContractEdgesTest::kindFour);
        EDGES.sentence("Kind 5: a def of a term of which a def was shown ahead: the term.", ContractEdgesTest::kindFive);
        EDGES.sentence("Kind 6: a use of a term of which no def is shown at all: the term.", ContractEdgesTest::kindSix);
        EDGES.sentence("Kind 7: a use of a term of which a def is shown, but none ahead of it: the term.", ContractEdgesTest::kindSeven);
        EDGES.sentence("Kind 8: a term of which a def is shown, but no use: the clause of its first def, and the term.",
                ContractEdgesTest::kindEight);
    }

    private static void worth() {
        EDGES.sentence("The worth of a contract is the first number less the second one of each optional clause that is in, added.",
                ContractEdgesTest::worthOfContracts);
    }

    // ---- what is written

    private static void clausesWritten() {
        EDGES.dueWritten("", "");
        EDGES.dueWritten("fact f=1;", "");
        EDGES.dueWritten("clause a when 1<1{'x'}", "");
        EDGES.dueWritten("clause a{}", "1. \n");
        EDGES.dueWritten("clause a after b{'x'}clause b{'y'}", "1. y\n2. x\n");
        EDGES.dueWritten(Desks.many("clause c#{}", 0, 10), "1. \n2. \n3. \n4. \n5. \n6. \n7. \n8. \n9. \n10. \n");
        EDGES.dueWritten(Desks.many("clause c# when #=15{}", 0, 16), "1. \n");
        EDGES.due("bytes of sixteen", Desks.taught(Desks.many("clause c#{'x'}", 0, 16)).count(7), 9 * 5 + 7 * 6);
    }

    private static void stringsWritten() {
        EDGES.dueWritten("clause a{'x'}", "1. x\n");
        EDGES.dueWritten("clause a{'" + FORTY + "'}", "1. " + FORTY + "\n");
        EDGES.dueWritten("clause a{' ''~'' x ''\"(?)\"'}", "1.  ~ x \"(?)\"\n");
        EDGES.dueWritten("clause a{'if 1<1{}''clause''#'}", "1. if 1<1{}clause#\n");
    }

    private static void refsWritten() {
        EDGES.dueWritten("clause a{ref b ref c}clause b{ref a}clause c when 1<1{}", "1. 2?\n2. 1\n");
        String sixteen = "clause a{ref c7 ref c8 ref c14}" + Desks.many("clause c#{}", 0, 15);
        EDGES.due("the first one of sixteen", Desks.contract(sixteen).substring(0, 9), "1. 91016\n");
        Desk desk = Desks.taught("clause a{ref b}clause b{}");
        EDGES.due("b in", Desks.written(desk), "1. 2\n2. \n");
        desk.choose(1, 0);
        EDGES.due("b dropped", Desks.written(desk), "1. ?\n");
        EDGES.dueWritten("clause a{ref b}clause b after d{}clause c after b{ref b}clause d{}", "1. 3\n2. \n3. \n4. 3\n");
    }

    private static void defsWritten() {
        EDGES.dueWritten("clause a{def a}", "1. \"a\"\n");
        EDGES.dueWritten("clause a{def z9 def abcdefghij}", "1. \"z9\"\"abcdefghij\"\n");
    }

    private static void usesWritten() {
        EDGES.dueWritten("clause a{use a}", "1. A\n");
        EDGES.dueWritten("clause a{use z use m}", "1. ZM\n");
        EDGES.dueWritten("clause a{use aa use zz use z9 use a0b}", "1. AaZzZ9A0b\n");
        EDGES.dueWritten("clause a{use abcdefghij}", "1. Abcdefghij\n");
    }

    private static void numbersWritten() {
        EDGES.dueWritten("clause a{show 0;' 'show 1;' 'show -1;' 'show -0;}", "1. 0 1 -1 0\n");
        EDGES.dueWritten("clause a{show 9;' 'show 10;' 'show -9;' 'show -10;}", "1. 9 10 -9 -10\n");
        EDGES.dueWritten("clause a{show 00100;' 'show 99999;' 'show 99999+1;}", "1. 100 99999 100000\n");
        EDGES.dueWritten("clause a{show 10000*10000*10-1;' 'show 10000*10000*10;}", "1. 999999999 1000000000\n");
        EDGES.dueWritten("clause a{show 32767*65536+65535;' 'show 32768*65536;}", "1. 2147483647 -2147483648\n");
    }

    private static void blocksWritten() {
        EDGES.dueWritten("clause a{if 1<2{'y'}'.'}", "1. y.\n");
        EDGES.dueWritten("clause a{if 2<1{'y'}'.'}", "1. .\n");
        EDGES.dueWritten("clause a{if 1<2{'y'}else{'n'}'.'}", "1. y.\n");
        EDGES.dueWritten("clause a{if 2<1{'y'}else{'n'}'.'}", "1. n.\n");
        EDGES.dueWritten("clause a{if 1<2{}else{'n'}if 2<1{'y'}else{}'.'}", "1. .\n");
        EDGES.dueWritten("clause a{if 1<2{if 2<1{'a'}else{'b'}}else{if 1<2{'c'}}if 2<1{if 1<2{'d'}}else{if 1<2{'e''f'}'g'}}", "1. befg\n");
        Desk desk = Desks.taught("fact f=4;clause a{if f<5{'y'}else{'n'}}");
        EDGES.due("f is 4", Desks.written(desk), "1. y\n");
        desk.setFact(0, 5);
        EDGES.due("f is 5", Desks.written(desk), "1. n\n");
    }

    private static void pointsWritten() {
        EDGES.dueWritten("clause a{'x'points{}'y'}", "1. xy\n");
        EDGES.dueWritten("clause a{points{point{}}}", "1.  (1) \n");
        EDGES.dueWritten("clause a{points{point{'x'}point{'y''z'}}'w'}", "1.  (1) x (2) yzw\n");
        EDGES.dueWritten("clause a{points{" + "point{}".repeat(10) + "}}",
                "1.  (1)  (2)  (3)  (4)  (5)  (6)  (7)  (8)  (9)  (10) \n");
        String hundred = Desks.contract("clause a{points{" + "point{}".repeat(101) + "}}");
        EDGES.due("a hundred points", hundred.substring(hundred.indexOf(" (99)")), " (99)  (100)  (101) \n");
        // Each points begins from 1, also within a point, and goes on behind it.
        EDGES.dueWritten("clause a{points{point{points{point{}point{}}}point{}}points{point{}}}", "1.  (1)  (1)  (2)  (2)  (1) \n");
        EDGES.dueWritten("clause a{points{point{if 2<1{points{point{}}}}point{}}}", "1.  (1)  (2) \n");
    }

    // ---- bounds

    /** No tape of 3000 bytes tells a contract of 6000; those that come nearest are written whole. */
    private static void longContracts() {
        String strings = "clause a{" + ("'" + FORTY + "'").repeat(71) + "}";
        EDGES.due("bytes of strings", Desks.taught(strings).count(7), 71 * 40 + 4);
        EDGES.dueWritten(strings, "1. " + FORTY.repeat(71) + "\n");
        // More bytes than a tape can have, by squares of ten digits and a sign.
        String squares = "fact f=50000;clause a{" + ("'" + FORTY + "'").repeat(47) + "show f*f;".repeat(108) + "}";
        EDGES.due("bytes of squares", Desks.taught(squares).count(7), 3072);
        EDGES.dueWritten(squares, "1. " + FORTY.repeat(47) + "-1794967296".repeat(108) + "\n");
        Desk desk = Desks.taught(squares);
        int length = desk.count(7);
        EDGES.due("the last byte", desk.byteAt(length - 1), 10);
        EDGES.dueIndex("the byte behind it", desk, () -> desk.byteAt(length));
        EDGES.due("clause(0, 8)", desk.clause(0, 8), length - 4);
        EDGES.due("would(0, 1, 3)", desk.would(0, 1, 3), length);
        desk.keep();
        EDGES.due("changes of long ones as they were", Desks.changes(desk), "0 0 0 0");
        desk.setFact(0, 50001);
        EDGES.due("changes(2) of long ones", desk.changes(2), 1);
        EDGES.due("kept long ones", Desks.changes(desk), "0 0 1 0");
    }

    private static void shownItems() {
        Desk desk = Desks.taught("fact f=1;clause a{if f<2{def t use u ref c}else{def u use t ref b}}clause b when f<2{use t}"
                + "clause c when 2<f{def u def u}");
        EDGES.due("f is 1: t", desk.term(0, 0) + " " + desk.term(0, 1) + " " + desk.term(0, 2), "1 1 0");
        EDGES.due("f is 1: u", desk.term(1, 0) + " " + desk.term(1, 1) + " " + desk.term(1, 2), "0 1 -1");
        EDGES.due("f is 1", Desks.found(desk), "6:0,1 4:0,2");
        desk.setFact(0, 2);
        EDGES.due("f is 2: t", desk.term(0, 0) + " " + desk.term(0, 1) + " " + desk.term(0, 2), "0 1 -1");
        EDGES.due("f is 2: u", desk.term(1, 0) + " " + desk.term(1, 1) + " " + desk.term(1, 2), "1 0 0");
        EDGES.due("f is 2", Desks.found(desk), "6:0,0 4:0,1 8:0,1");
        desk.setFact(0, 3);
        EDGES.due("f is 3: u", desk.term(1, 0) + " " + desk.term(1, 1) + " " + desk.term(1, 2), "3 0 0");
        EDGES.due("f is 3", Desks.found(desk), "6:0,0 4:0,1 5:2,1 5:2,1 8:0,1");
    }

    private static void mostConflicts() {
        dueMost("clause a{" + "use t ".repeat(59) + "}", 59, 0);
        dueMost("clause a{" + "use t ".repeat(60) + "}", 60, 0);
        dueMost("clause a{" + "use t ".repeat(61) + "}", 60, 0);
        dueMost("clause a{" + "use t ".repeat(290) + "}", 60, 0);
        dueMost("clause a{" + "use t ".repeat(58) + "def u def v}", 58, 2);
        dueMost("clause a{" + "use t ".repeat(59) + "def u def v}", 59, 1);
        dueMost("clause a{" + "use t ".repeat(60) + "def u def v}", 60, 0);
        Desk last = Desks.taught("clause a{" + "use t ".repeat(59) + "def u def v}");
        EDGES.due("the 60th", last.conflict(59, 0) + ":" + last.conflict(59, 1) + "," + last.conflict(59, 2), "8:0,1");
        Desk bars = Desks.taught("clause a" + " bars b".repeat(61) + " needs c{}clause b{}clause c{}");
        EDGES.due("bars of 61", bars.count(6) + " " + bars.conflicts(1), "60 60");
        bars.choose(2, 0);
        EDGES.due("bars of 61, and a needs", bars.count(6) + " " + bars.conflicts(1) + " " + bars.conflicts(2), "60 60 0");
        // Those that are not told count in no answer but advise().
        EDGES.due("friction", bars.friction(), 30.0);
        EDGES.due("would", bars.would(2, 1, 1), 60);
    }

    private static void dueMost(String text, int uses, int defs) {
        Desk desk = Desks.taught(text);
        EDGES.due("count(6)", desk.count(6), uses + defs);
        EDGES.due("conflicts(6)", desk.conflicts(6), uses);
        EDGES.due("conflicts(8)", desk.conflicts(8), defs);
        EDGES.due("the last one", desk.conflict(uses + defs - 1, 0), defs > 0 ? 8 : 6);
        EDGES.dueIndex("the one behind it", desk, () -> desk.conflict(uses + defs, 0));
    }

    private static void partsOfConflicts() {
        Desk desk = Desks.taught("clause a{}clause b bars d{use s use t}clause c{}clause d{def s}");
        EDGES.due("the conflicts", Desks.found(desk), "1:1,3 7:1,0 6:1,1");
    }

    // ---- conflicts

    private static void orderOfConflicts() {
        // The contract: b, a; in the text the items, needs, after and bars stand in other orders.
        String text = "clause a after b needs x after c needs y bars b bars c{use v ref x def t def t use w}"
                + "clause b needs x bars c bars a{def w ref y use t}clause c when 1<1 after a{}clause x when 1<1{}clause y when 1<1{}";
        Desk desk = Desks.taught(text);
        desk.choose(3, 0);
        desk.choose(4, 0);
        EDGES.due("the order", Desks.order(desk), "ba");
        EDGES.due("the conflicts", Desks.found(desk), "1:1,0 2:1,3 4:1,4 7:1,1 1:0,1 2:0,3 2:0,4 6:0,0 4:0,3 5:0,1");
        desk.choose(2, 1);
        EDGES.due("the order with c", Desks.order(desk), "bac");
        EDGES.due("the conflicts with c", Desks.found(desk),
                "1:1,2 1:1,0 2:1,3 4:1,4 7:1,1 1:0,1 1:0,2 2:0,3 2:0,4 3:0,2 6:0,0 4:0,3 5:0,1");
    }

    private static void lastConflicts() {
        // By terms, not by clauses; behind the conflicts of all clauses.
        EDGES.dueFound("clause a after c{if 1<0{use w use y}use z def y}clause b{use x}clause c{def x def w}",
                "7:1,3 6:0,2 8:2,0 8:0,1");
        EDGES.dueFound("clause a{def t}clause b{use u}", "6:1,1 8:0,0");
        EDGES.dueFound("clause a{if 1<0{use s use r}}clause b{def r}clause c{def s}", "8:2,0 8:1,1");
    }

    private static void kindOne() {
        EDGES.dueFound("clause a bars b{}clause b{}", "1:0,1");
        EDGES.dueFound("clause a bars b{}clause b when 1<1{}", "");
        EDGES.dueFound("clause a when 1<1 bars b{}clause b{}", "");
        EDGES.dueFound("clause a{}clause b bars a{}", "1:1,0");
        EDGES.dueFound("clause a bars c bars b bars d{}clause b{}clause c{}clause d{}", "1:0,2 1:0,1 1:0,3");
        EDGES.dueFound("clause a bars b bars b{}clause b{}", "1:0,1 1:0,1");
        EDGES.dueFound("clause a bars b{}clause b bars a{}", "1:0,1 1:1,0");
        EDGES.dueFound(Desks.many("clause c# bars z{}", 0, 15) + "clause z bars c0{}",
                Desks.many("1:#,15 ", 0, 15) + "1:15,0");
    }

    private static void kindTwo() {
        Desk desk = Desks.taught("clause a needs c needs c needs b needs c{}clause b{}clause c{}");
        EDGES.due("all in", Desks.found(desk), "");
        desk.choose(2, 0);
        EDGES.due("c dropped", Desks.found(desk), "2:0,2 2:0,2 2:0,2");
        desk.choose(1, 0);
        EDGES.due("b and c dropped", Desks.found(desk), "2:0,2 2:0,2 2:0,1 2:0,2");
        desk.choose(0, 0);
        EDGES.due("all dropped", Desks.found(desk), "");
    }

    private static void kindThree() {
        EDGES.dueFound("clause a after b{}clause b{}", "");
        EDGES.dueFound("clause a{}clause b after a{}", "");
        EDGES.dueFound("clause a after b{}clause b after a{}", "3:0,1");
        EDGES.dueFound("clause a after b{}clause b when 1<1 after a{}", "");
        EDGES.dueFound("clause a after c after b after c{}clause b after a{}clause c{}", "3:0,1");
        EDGES.dueFound("clause a after c after b after c{}clause b after a{}clause c after b{}", "3:0,2 3:0,1 3:0,2");
        EDGES.dueFound("clause a after c after c after b{}clause b after a{}clause c after a{}", "3:0,2 3:0,2 3:0,1");
        EDGES.dueFound("clause a after b{}clause b after c{}clause c after b{}", "3:0,1 3:1,2");
    }

    private static void kindFour() {
        EDGES.dueFound("clause a{ref b}clause b{}", "");
        EDGES.dueFound("clause a{ref b ref b}clause b when 1<1{}", "4:0,1 4:0,1");
        EDGES.dueFound("clause a{if 1<1{ref b}}clause b when 1<1{}", "");
        EDGES.dueFound("clause a when 1<1{ref b}clause b when 1<1{}", "");
        EDGES.dueFound("clause a{}clause b{ref c ref a}clause c when 1<1{}", "4:1,2");
    }

    private static void kindFive() {
        EDGES.dueFound("clause a{def t use t}", "");
        EDGES.dueFound("clause a{def t use t def t}", "5:0,0");
        EDGES.dueFound("clause a{def t use t def t}clause b{def t}", "5:0,0 5:1,0");
        EDGES.dueFound("clause a after b{def t use t}clause b{def t}", "5:0,0");
        EDGES.dueFound("clause a{if 1<1{def t}def t use t}", "");
        EDGES.dueFound("clause a when 1<1{def t}clause b{def t use t}", "");
        EDGES.dueFound("clause a{def t def u use t use u}", "");
    }

    private static void kindSix() {
        EDGES.dueFound("clause a{use t}", "6:0,0");
        EDGES.dueFound("clause a{use t use t}clause b{use t}", "6:0,0 6:0,0 6:1,0");
        EDGES.dueFound("clause a{use t if 1<1{def t}}", "6:0,0");
        EDGES.dueFound("clause a{use t}clause b when 1<1{def t}", "6:0,0");
        EDGES.dueFound("clause a{if 1<1{use t}}", "");
        EDGES.dueFound("clause a{use u def t use t}", "6:0,0");
        EDGES.dueFound("clause a{use t def t}", "7:0,0");
    }

    private static void kindSeven() {
        EDGES.dueFound("clause a{use t def t}", "7:0,0");
        EDGES.dueFound("clause a{def t use t}", "");
        EDGES.dueFound("clause a{use t use t def t use t}", "7:0,0 7:0,0");
        EDGES.dueFound("clause a{use t}clause b{def t}", "7:0,0");
        EDGES.dueFound("clause a after b{use t}clause b{def t}", "");
        EDGES.dueFound("clause a{if 1<1{def t}use t def t}", "7:0,0");
    }

    private static void kindEight() {
        EDGES.dueFound("clause a{def t}", "8:0,0");
        EDGES.dueFound("clause a{def t use t}", "");
        EDGES.dueFound("clause a{def t if 1<1{use t}}", "8:0,0");
        EDGES.dueFound("clause a{def t}clause b when 1<1{use t}", "8:0,0");
        EDGES.dueFound("clause a{def t}clause b{def t}", "5:1,0 8:0,0");
        EDGES.dueFound("clause a after b{def t}clause b{def t}", "5:0,0 8:1,0");
        EDGES.dueFound("clause a{if 1<1{def t}}clause b{def t}", "8:1,0");
        EDGES.dueFound("clause a{if 1<1{def t}}", "");
    }

    // ---- worth

    private static void worthOfContracts() {
        Desk desk = Desks.taught("clause a{}clause b optional 7 3{}clause c optional 2 9{}clause d needs e{}clause e optional 10 10{}"
                + "clause f optional 0 99999{}clause g optional 99999 0{}clause h optional 1 0{}");
        EDGES.due("with e, which d needs", desk.count(8), 0);
        desk.choose(1, 1);
        EDGES.due("with b", desk.count(8), 4);
        desk.choose(2, 1);
        EDGES.due("with b and c", desk.count(8), -3);
        desk.choose(1, 0);
        EDGES.due("with c", desk.count(8), -7);
        desk.choose(5, 1);
        EDGES.due("with c and f", desk.count(8), -100006);
        desk.choose(6, 1);
        desk.choose(7, 1);
        EDGES.due("with c, f, g and h", desk.count(8), -6);
        Desk all = Desks.taught(Desks.many("clause c# optional 99999 0{}", 0, 8) + "clause a" + Desks.many(" needs c#", 0, 8) + "{}");
        EDGES.due("the greatest", all.count(8), 8 * 99999);
        Desk none = Desks.taught(Desks.many("clause c# optional 0 99999{}", 0, 8) + "clause a" + Desks.many(" needs c#", 0, 8) + "{}");
        EDGES.due("the least", none.count(8), -8 * 99999);
        EDGES.due("of no clause", Desks.taught("clause a optional 5 1{}").count(8), 0);
    }
}
