/** Promises 13 to 16, and section 3: the contract as it is written, its conflicts, and the fewest that have to go. */
public final class ContractTest {
    private static final Desks DESKS = new Desks("ContractTest");

    public static void main(String[] args) {
        items();
        numbers();
        bytes();
        kinds();
        orderOfConflicts();
        mostConflicts();
        fewest();
        DESKS.close();
    }

    private static void written(String text, String due) {
        DESKS.dueWritten(text, due);
    }

    private static void items() {
        written("", "");
        written("clause a{}", "1. \n");
        written("clause a{' x~'' '}clause b{'{}'}", "1.  x~ \n2. {}\n");
        written("clause a{ref b ref c ref d}clause b{ref a}clause c when 1<1{}clause d after a after b{}", "1. 2?3\n2. 1\n3. \n");
        written("clause a{def ab use ab use c9 def c9}", "1. \"ab\"AbC9\"c9\"\n");
        written("clause a{if 1<2{'y'}if 2<1{'n'}if 2<1{'n'}else{'e'}if 1<2{'t'}else{'f'}}", "1. yet\n");
        written("clause a{if 1<2{if 2<1{'a'}else{if 1<2{'b'}'c'}}else{'d'}'e'}", "1. bce\n");
        written("clause a{points{point{'x'}point{}point{'y''z'}}points{}'!'}", "1.  (1) x (2)  (3) yz!\n");
        written("clause a{points{point{points{point{'i'}point{'j'}}}point{'k'}}}", "1.  (1)  (1) i (2) j (2) k\n");
        written("clause a{points{" + "point{}".repeat(11) + "}}",
                "1.  (1)  (2)  (3)  (4)  (5)  (6)  (7)  (8)  (9)  (10)  (11) \n");
        written("clause a{}clause b{}clause c{}clause d{}clause e{}clause f{}clause g{}clause h{}clause i{}clause j{ref j1}clause j1{}",
                "1. \n2. \n3. \n4. \n5. \n6. \n7. \n8. \n9. \n10. 11\n11. \n");
    }

    private static void shown(String sum, String due) {
        written("fact f=99999;fact m=10;clause a{show " + sum + ";}", "1. " + due + "\n");
    }

    private static void numbers() {
        shown("0", "0");
        shown("00120", "120");
        shown("-7", "-7");
        shown("--7", "7");
        shown("10000*m*m*m*m*m", "1000000000");
        shown("f*f", "1409865409");
        shown("32768*65536", "-2147483648");
        shown("-(32768*65536)", "-2147483648");
        shown("32768*65536/-1", "-2147483648");
        shown("32768*65536-1", "2147483647");
        shown("32768*65536-1+1", "-2147483648");
        shown("7/2", "3");
        shown("-7/2", "-3");
        shown("7/-2", "-3");
        shown("-7/-2", "3");
        shown("7/0", "0");
        shown("7/(m-10)+1", "1");
        shown("10-3-2", "5");
        shown("100/m/2", "5");
        shown("100/m*2", "20");
        shown("2+3*4", "14");
        shown("(2+3)*4", "20");
        shown("2*3+4*5-6/3", "24");
        shown("-2*3", "-6");
        shown("-(2-3)", "1");
        shown("min(3,-3)*max(3,-3)", "-9");
        shown("max(min(1,2),min(4,3))", "3");
        shown("1-2*min(m,f)-3", "-22");
    }

    private static void bytes() {
        Desk desk = Desks.taught("clause a{'xyz'}");
        int[] due = {'1', '.', ' ', 'x', 'y', 'z', 10};
        DESKS.due("count(7)", desk.count(7), due.length);
        for (int i = 0; i < due.length; i++) {
            DESKS.due("byteAt(" + i + ")", desk.byteAt(i), due[i]);
        }
        DESKS.dueIndex("byteAt(7)", desk, () -> desk.byteAt(7));
        DESKS.dueIndex("byteAt(-1)", desk, () -> desk.byteAt(-1));
        desk.choose(0, 0);
        DESKS.dueIndex("byteAt(0) of nothing", desk, () -> desk.byteAt(0));
        // A long one: 67 strings of 40 bytes.
        String string = "'" + "abcdefghij".repeat(4) + "'";
        String large = "clause a{" + string.repeat(67) + "}";
        DESKS.due("bytes of a large one", Desks.taught(large).count(7), 67 * 40 + 4);
        DESKS.dueWritten(large, "1. " + "abcdefghij".repeat(268) + "\n");
    }

    private static void conflicts(String text, String due) {
        DESKS.dueFound(text, due);
    }

    private static void kinds() {
        conflicts("clause a bars b bars c bars b{}clause b{}clause c when 1<1{}", "1:0,1 1:0,1");
        conflicts("clause a bars b{}clause b bars a{}", "1:0,1 1:1,0");
        conflicts("clause a when 1<1 bars b{}clause b{}", "");
        conflicts("clause a after b{}clause b after c{}clause c after a after b{}", "3:0,1 3:1,2");
        conflicts("clause a after b after c{}clause b after a{}clause c when 1<1{}", "3:0,1");
        conflicts("clause a{ref b ref c ref b}clause b when 1<1{}clause c{}", "4:0,1 4:0,1");
        conflicts("clause a{def t def u}clause b{def t use t if 1<1{def t}}clause c{use u def u}", "5:1,0 5:2,1");
        conflicts("clause a{use t use t if 1<1{def t}}clause b{use t}clause c when 1<1{def t}", "6:0,0 6:0,0 6:1,0");
        conflicts("clause a{use t def t use t}clause b{use u}clause c{def u}", "7:0,0 7:1,1");
        conflicts("clause a after c{def t if 1<1{use t}}clause b when 1<1{use t}clause c{def u def t def t}",
                "5:2,0 5:0,0 8:2,0 8:2,1");
        conflicts("clause a{def v def u def v}clause b{use w def t}", "5:0,0 6:1,2 8:0,0 8:0,1 8:1,3");

        Desk needing = Desks.taught("clause a needs b needs c needs b{}clause b{}clause c{}");
        needing.choose(1, 0);
        DESKS.due("the conflicts with b dropped", Desks.found(needing), "2:0,1 2:0,1");
        DESKS.due("conflicts(2)", needing.conflicts(2), 2);
        DESKS.due("conflicts(1)", needing.conflicts(1), 0);
        DESKS.dueIndex("conflicts(0)", needing, () -> needing.conflicts(0));
        DESKS.dueIndex("conflicts(9)", needing, () -> needing.conflicts(9));
        DESKS.dueIndex("conflicts(-1)", needing, () -> needing.conflicts(-1));
        DESKS.dueIndex("conflict(2, 0)", needing, () -> needing.conflict(2, 0));
        DESKS.dueIndex("conflict(-1, 0)", needing, () -> needing.conflict(-1, 0));
        DESKS.dueIndex("conflict(0, 3)", needing, () -> needing.conflict(0, 3));
        DESKS.dueIndex("conflict(0, -1)", needing, () -> needing.conflict(0, -1));
    }

    private static void orderOfConflicts() {
        Desk desk = Desks.taught("fact price = 100; fact days = 5;"
                + "clause a when price > 50 needs b after c { 'A' show price; }"
                + "clause b optional 3 1 bars c bars a { ref a ref d }"
                + "clause c needs b needs b after b after a { def t use t }"
                + "clause d when days = 6 optional 9 2 { def t }"
                + "clause e when days < 6 or price < 0 needs d { if days > 5 {'long'} else {'no'} use t }");
        DESKS.due("written", Desks.written(desk), "1. 42\n2. \"t\"\n3. noT\n4. A100\n5. \"t\"T\n");
        DESKS.due("found", Desks.found(desk), "1:1,2 1:1,0 3:0,2 5:2,0");
        desk.choose(1, 0);
        desk.choose(3, 0);
        DESKS.due("found then", Desks.found(desk), "2:4,3 7:4,0 2:0,1 3:0,2 2:2,1 2:2,1");
        Desk mixed = Desks.taught("clause a after b needs c bars b{use v ref c use t def t use u def t def u}"
                + "clause b after a after c{def w}clause c{}");
        mixed.choose(2, 0);
        DESKS.due("found in one clause", Desks.found(mixed), "1:0,1 2:0,2 3:0,1 6:0,0 4:0,2 7:0,1 7:0,2 5:0,1 8:1,3");
    }

    private static void mostConflicts() {
        Desk desk = Desks.taught("clause a{" + "use t ".repeat(59) + "}clause b bars c bars c{def u}clause c{}");
        DESKS.due("count(6)", desk.count(6), 60);
        DESKS.due("conflicts(6)", desk.conflicts(6), 59);
        DESKS.due("conflicts(1)", desk.conflicts(1), 1);
        DESKS.due("conflicts(8)", desk.conflicts(8), 0);
        DESKS.due("conflict(59)", desk.conflict(59, 0) + " " + desk.conflict(59, 1) + " " + desk.conflict(59, 2), "1 1 2");
        DESKS.dueIndex("conflict(60, 0)", desk, () -> desk.conflict(60, 0));
        DESKS.due("friction", desk.friction(), 20.0);
        DESKS.due("advise with a conflict that is not told", desk.advise(), -1);
    }

    private static void fewest(String text, int due) {
        DESKS.due("fewest of " + text, Desks.taught(text).fewest(), due);
    }

    private static void fewest() {
        fewest("clause a{}clause b{}", 0);
        fewest("clause a bars b{}clause b{}", 1);
        fewest("clause a{}clause b bars a{}", 1);
        fewest("clause a bars b bars c{}clause b{}clause c{}", 1);
        fewest("clause a{}clause b bars a bars c{}clause c{}", 2);
        fewest("clause a{}clause b bars a{}clause c bars b{}clause d bars c{}", 5);
        fewest("clause a bars b bars c{}clause b bars c{}clause c{}", 3);
        fewest("clause a{}clause b{}clause c bars a{}clause d bars b bars c{}", 6);
        fewest("clause a{}clause b{}clause c{}clause d{}clause e bars a bars b bars c bars d{}", 16);
        fewest("clause a bars b needs b{}clause b when 1<1{}clause c when 1<1 bars a{}", 1);
        StringBuilder pairs = new StringBuilder();
        for (int i = 0; i < 8; i++) {
            pairs.append("clause p").append(i).append(" bars q").append(i).append("{}");
        }
        for (int i = 0; i < 8; i++) {
            pairs.append("clause q").append(i).append("{}");
        }
        fewest(pairs.toString(), 255);
        StringBuilder all = new StringBuilder();
        for (int i = 0; i < 16; i++) {
            all.append("clause c").append(i);
            for (int j = 0; j < i; j++) {
                all.append(" bars c").append(j);
            }
            all.append("{}");
        }
        fewest(all.toString(), 32767);
        Desk desk = Desks.taught("clause a bars b bars c{}clause b bars c{}clause c{}clause d bars c bars a{}");
        DESKS.due("fewest", desk.fewest(), 5);
        desk.choose(0, 0);
        DESKS.due("fewest without a", desk.fewest(), 4);
        desk.choose(2, 0);
        DESKS.due("fewest without a and c", desk.fewest(), 0);
    }
}
