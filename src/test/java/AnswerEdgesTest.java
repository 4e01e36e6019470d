import java.math.BigInteger;

/** Promises 13 to 23: for each sentence that names an edge a test of its own (what is refused: RefusalsTest). */
public final class AnswerEdgesTest {
    private static final Desks EDGES = new Desks("AnswerEdgesTest");

    public static void main(String[] args) {
        asked();
        fewest();
        would();
        advise();
        calmest();
        drafts();
        checksum();
        EDGES.close();
    }

    private static void asked() {
        EDGES.sentence("byteAt: a place in the contract", AnswerEdgesTest::bytes);
        EDGES.sentence("conflict: a place among the conflicts, from 0", AnswerEdgesTest::places);
        EDGES.sentence("Returns how many conflicts of it are told.", AnswerEdgesTest::kinds);
    }

    private static void fewest() {
        EDGES.sentence("the fewest clauses of those that are in, without which no other one of these would bar one of these",
                AnswerEdgesTest::fewestOfThoseIn);
        EDGES.sentence("(each as it is now; nothing else is looked at)", AnswerEdgesTest::fewestAsItIs);
        EDGES.sentence("of several the least sum; 0 if none have to go", AnswerEdgesTest::fewestLeastSum);
    }

    private static void would() {
        EDGES.sentence("0 clauses that are in then, 1 conflicts then, 2 the worth then, 3 bytes of the contract then",
                AnswerEdgesTest::wouldBe);
        EDGES.sentence("would: Returns this, if it had this choice (nothing is changed).", AnswerEdgesTest::wouldAsItIs);
    }

    private static void advise() {
        EDGES.sentence("some of them (or none) are chosen, the others stay free", AnswerEdgesTest::adviseSomeOrNone);
        EDGES.sentence("the optional clauses that are free", AnswerEdgesTest::adviseFreeOnes);
        EDGES.sentence("so that there is no conflict of the kinds 1 and 2", AnswerEdgesTest::adviseKinds);
        EDGES.sentence("(also none beyond the 60 that are told)", AnswerEdgesTest::adviseBeyondSixty);
        EDGES.sentence("and the worth of the contract is the greatest", AnswerEdgesTest::adviseGreatestWorth);
        EDGES.sentence("advise: of several the least sum", AnswerEdgesTest::adviseLeastSum);
        EDGES.sentence("-1 if there are such conflicts, whatever is chosen", AnswerEdgesTest::adviseNothing);
    }

    private static void calmest() {
        EDGES.sentence("low: the least value that is tried, -1000 to 1000", AnswerEdgesTest::calmestLow);
        EDGES.sentence("high: the greatest one, low to 1000", AnswerEdgesTest::calmestHigh);
        EDGES.sentence("if .. high is more than 40 greater than low", AnswerEdgesTest::calmestSpan);
        EDGES.sentence("of several the least one (nothing is changed)", AnswerEdgesTest::calmestLeast);
        EDGES.sentence("with which the fewest conflicts are told", AnswerEdgesTest::calmestTold);
    }

    private static void drafts() {
        EDGES.sentence("At first an empty contract is kept.", AnswerEdgesTest::keptAtFirst);
        EDGES.sentence("Keeps the contract as it is now. Returns how many clauses it has.", AnswerEdgesTest::kept);
        EDGES.sentence("(each clause without its number, the dot and the blank, and without the bound of 6000)",
                AnswerEdgesTest::keptBytes);
        EDGES.sentence("0 clauses that are in now, and were not in the contract that is kept", AnswerEdgesTest::added);
        EDGES.sentence("1 those that were, and are not now", AnswerEdgesTest::removed);
        EDGES.sentence("2 those in both, of which the bytes of the items differ", AnswerEdgesTest::differing);
        EDGES.sentence("3 the fewest of those in both that have to be moved, so that their order is as it was", AnswerEdgesTest::moved);
    }

    private static void checksum() {
        EDGES.sentence("the conflicts that are told, divided by the clauses that are in; 0 if none are in", AnswerEdgesTest::friction);
        EDGES.sentence("A number d starts with 641; for each of the following numbers x, d becomes d * 31 + x", AnswerEdgesTest::digest);
        EDGES.sentence("which wraps around as a 64-bit integer", AnswerEdgesTest::digestWraps);
    }

    // ---- bytes and conflicts

    private static void bytes() {
        Desk desk = Desks.taught("clause a{'~'}clause b optional 1 1{}");
        int[] due = {'1', '.', ' ', '~', 10};
        for (int i = 0; i < due.length; i++) {
            EDGES.due("byteAt(" + i + ")", desk.byteAt(i), due[i]);
        }
        EDGES.dueIndex("byteAt(5)", desk, () -> desk.byteAt(5));
        EDGES.dueIndex("byteAt(-1)", desk, () -> desk.byteAt(-1));
        desk.choose(1, 1);
        EDGES.due("byteAt(5)", desk.byteAt(5), (int) '2');
        EDGES.due("byteAt(8)", desk.byteAt(8), 10);
        EDGES.dueIndex("byteAt(9)", desk, () -> desk.byteAt(9));
        desk.choose(0, 0);
        desk.choose(1, 0);
        EDGES.dueIndex("byteAt(0) of none", desk, () -> desk.byteAt(0));
    }

    private static void places() {
        Desk desk = Desks.taught("clause a{use t}clause b{def u}");
        EDGES.due("the first one", desk.conflict(0, 0) + " " + desk.conflict(0, 1) + " " + desk.conflict(0, 2), "6 0 0");
        EDGES.due("the last one", desk.conflict(1, 0) + " " + desk.conflict(1, 1) + " " + desk.conflict(1, 2), "8 1 1");
        EDGES.dueIndex("conflict(2, 0)", desk, () -> desk.conflict(2, 0));
        EDGES.dueIndex("conflict(-1, 0)", desk, () -> desk.conflict(-1, 0));
        EDGES.dueIndex("conflict(0, 3)", desk, () -> desk.conflict(0, 3));
        EDGES.dueIndex("conflict(0, -1)", desk, () -> desk.conflict(0, -1));
        desk.choose(0, 0);
        EDGES.dueIndex("conflict(1, 0) of one", desk, () -> desk.conflict(1, 0));
        desk.choose(1, 0);
        EDGES.dueIndex("conflict(0, 0) of none", desk, () -> desk.conflict(0, 0));
    }

    private static void kinds() {
        // Kind k is told k times.
        Desk desk = Desks.taught("clause a bars c after f after g after f{ref z ref z ref z ref z def s def s def s def s def s def s "
                + Desks.many("use u ", 0, 6) + Desks.many("use v ", 0, 7) + "}clause b after a{def v use s def h0 def h1 def h2 def h3 def h4 def h5 def h6 def h7}"
                + "clause c{}clause f after a{}clause g after a{}clause z when 1<1{}clause y needs x needs x{}clause x{}");
        desk.choose(7, 0);
        for (int kind = 1; kind <= 8; kind++) {
            EDGES.due("conflicts(" + kind + ")", desk.conflicts(kind), kind);
        }
        EDGES.due("count(6)", desk.count(6), 36);
        EDGES.dueIndex("conflicts(0)", desk, () -> desk.conflicts(0));
        EDGES.dueIndex("conflicts(9)", desk, () -> desk.conflicts(9));
        for (int clause = 0; clause < 8; clause++) {
            desk.choose(clause, 0);
        }
        for (int kind = 1; kind <= 8; kind++) {
            EDGES.due("conflicts(" + kind + ") of none", desk.conflicts(kind), 0);
        }
    }

    // ---- fewest

    private static void dueFewest(String text, int due) {
        EDGES.due("fewest() of " + text, Desks.taught(text).fewest(), due);
    }

    private static void fewestOfThoseIn() {
        dueFewest("clause a bars b{}clause b{}clause c{}", 1);
        dueFewest("clause a bars b{}clause b when 1<1{}clause c{}", 0);
        dueFewest("clause a when 1<1 bars b{}clause b{}clause c bars a{}", 0);
        dueFewest("clause a when 1<1 bars c{}clause b bars c{}clause c{}", 2);
        // One that is barred by all goes, and not all that bar it.
        dueFewest(Desks.many("clause c# bars z{}", 0, 15) + "clause z{}", 32768);
        dueFewest("clause z" + Desks.many(" bars c#", 0, 15) + "{}" + Desks.many("clause c#{}", 0, 15), 1);
        // Each one bars all others: all go but one.
        StringBuilder all = new StringBuilder();
        for (int i = 0; i < 16; i++) {
            all.append("clause c").append(i);
            for (int j = 0; j < 16; j++) {
                all.append(i == j ? "" : " bars c" + j);
            }
            all.append("{}");
        }
        dueFewest(all.toString(), 32767);
        // A round of five: three go.
        dueFewest("clause a bars b{}clause b bars c{}clause c bars d{}clause d bars e{}clause e bars a{}", 1 + 2 + 8);
        // A row of five: two go.
        dueFewest("clause a bars b{}clause b bars c{}clause c bars d{}clause d bars e{}clause e{}", 2 + 8);
    }

    private static void fewestAsItIs() {
        // Without a nobody would need b, and a alone would be enough: no matter, each is as it is now.
        dueFewest("clause a needs b bars d{}clause b when 1<1 bars d bars c{}clause c{}clause d{}", 3);
        // That another one needs it is no reason to stay.
        dueFewest("clause a needs b{}clause b bars c{}clause c{}", 2);
        Desk desk = Desks.taught("clause a bars b needs c{ref x use t}clause b{}clause c when 1<1 bars b{}clause x when 1<1{}");
        EDGES.due("b goes", desk.fewest(), 2);
        desk.choose(2, 0);
        EDGES.due("with the needed one dropped, a goes", desk.fewest(), 1);
        desk.choose(1, 0);
        EDGES.due("with b dropped, none", desk.fewest(), 0);
        // Choices and the optional are not looked at.
        Desk chosen = Desks.taught("clause a optional 99 0 bars b{}clause b optional 0 99{}");
        chosen.choose(0, 1);
        chosen.choose(1, 1);
        EDGES.due("the one of greater worth", chosen.fewest(), 1);
    }

    private static void fewestLeastSum() {
        dueFewest("", 0);
        dueFewest("clause a{}", 0);
        dueFewest("clause a needs b after b{ref b}clause b{}", 0);
        dueFewest("clause a bars b{}clause b{}", 1);
        dueFewest("clause a{}clause b bars a{}", 1);
        dueFewest("clause a{}clause b{}clause c{}clause d bars c{}", 4);
        dueFewest("clause a bars b{}clause b{}clause c{}clause d bars c{}", 5);
        // Fewer come ahead of a smaller sum.
        dueFewest("clause a{}clause b{}clause c bars a bars b{}", 4);
        dueFewest(Desks.many("clause c# bars d#{}", 0, 8) + Desks.many("clause d#{}", 0, 8), 255);
        dueFewest(Desks.many("clause c#{}", 0, 14) + "clause x bars y{}clause y{}", 16384);
    }

    // ---- would

    private static String would(Desk desk, int clause, int choice) {
        return desk.would(clause, choice, 0) + " " + desk.would(clause, choice, 1) + " " + desk.would(clause, choice, 2) + " "
                + desk.would(clause, choice, 3);
    }

    private static void wouldBe() {
        Desk desk = Desks.taught("clause a{'aa'}clause b optional 3 8 bars a needs c{use t}clause c optional 9 1{}");
        EDGES.due("a dropped", would(desk, 0, 0), "0 0 0 0");
        EDGES.due("a chosen", would(desk, 0, 1), "1 0 0 6");
        EDGES.due("a free", would(desk, 0, -1), "1 0 0 6");
        EDGES.due("b dropped", would(desk, 1, 0), "1 0 0 6");
        EDGES.due("b chosen", would(desk, 1, 1), "3 2 3 15");
        EDGES.due("b free", would(desk, 1, -1), "1 0 0 6");
        EDGES.due("c chosen", would(desk, 2, 1), "2 0 8 10");
        desk.choose(1, 1);
        EDGES.due("c dropped", would(desk, 2, 0), "2 3 -5 11");
        EDGES.due("c free", would(desk, 2, -1), "3 2 3 15");
        Desk many = Desks.taught("clause a{}clause b optional 0 99999{" + "use t ".repeat(61) + "}");
        EDGES.due("61 conflicts", would(many, 1, 1), "2 60 -99999 69");
        Desk last = Desks.taught(Desks.many("clause c# when 1<1{}", 0, 16));
        EDGES.due("the last one of sixteen", would(last, 15, 1), "1 0 0 4");
        Desk large = Desks.taught("clause a optional 1 0{" + ("'" + "x".repeat(40) + "'").repeat(70) + "}");
        EDGES.due("a large one", would(large, 0, 1), "1 0 1 2804");
    }

    private static void wouldAsItIs() {
        Desk desk = Desks.taught("fact f=1;clause a{def t}clause b optional 4 1 bars a{use t show f;}clause c when f<1{}");
        desk.keep();
        desk.choose(2, 1);
        long before = desk.digest();
        String kept = Desks.changes(desk);
        for (int clause = 0; clause < 3; clause++) {
            for (int choice = -1; choice <= 1; choice++) {
                String then = would(desk, clause, choice);
                EDGES.due("digest() behind would", desk.digest(), before);
                EDGES.due("changes behind would", Desks.changes(desk), kept);
                Desk other = Desks.taught("fact f=1;clause a{def t}clause b optional 4 1 bars a{use t show f;}clause c when f<1{}");
                other.choose(2, 1);
                other.choose(clause, choice);
                EDGES.due("would(" + clause + ", " + choice + ")", then,
                        other.count(5) + " " + other.count(6) + " " + other.count(8) + " " + other.count(7));
            }
        }
        EDGES.due("the contract behind all", Desks.written(desk), "1. \"t\"\n2. \n");
    }

    // ---- advise

    private static void dueAdvice(String text, int due) {
        Desk desk = Desks.taught(text);
        long before = desk.digest();
        EDGES.due("advise() of " + text, desk.advise(), due);
        EDGES.due("digest() behind it", desk.digest(), before);
    }

    private static void adviseSomeOrNone() {
        dueAdvice("", 0);
        dueAdvice("clause a{}", 0);
        dueAdvice("clause a optional 1 0{}", 1);
        dueAdvice("clause a optional 0 1{}", 0);
        dueAdvice(Desks.many("clause c#{}", 0, 8) + Desks.many("clause d# optional 1 0{}", 0, 8), 65280);
        dueAdvice(Desks.many("clause c# optional 1 0{}", 0, 8), 255);
        dueAdvice(Desks.many("clause c# optional 0 1{}", 0, 8), 0);
        // The others stay free, and are in if one that is in needs them.
        dueAdvice("clause a optional 5 0 needs b{}clause b optional 1 0{}", 1);
        dueAdvice("clause a optional 5 0 needs b{}clause b optional 0 4{}", 1);
        dueAdvice("clause a optional 5 0 needs b{}clause b optional 0 5{}", 0);
    }

    private static void adviseFreeOnes() {
        Desk desk = Desks.taught("clause a optional 5 0{}clause b optional 4 0{}clause c{}clause d when 1<1{}");
        EDGES.due("all free", desk.advise(), 3);
        desk.choose(0, 1);
        EDGES.due("a chosen", desk.advise(), 2);
        desk.choose(0, 0);
        EDGES.due("a dropped", desk.advise(), 2);
        desk.choose(1, 1);
        EDGES.due("a dropped and b chosen", desk.advise(), 0);
        desk.choose(2, 0);
        EDGES.due("also c dropped, which is not optional", desk.advise(), 0);
        desk.choose(0, -1);
        EDGES.due("a free and b chosen", desk.advise(), 1);
        // One that is not optional is not chosen, though its need would bring in both others.
        dueAdvice("clause a when 1<1 needs b needs c{}clause b optional 5 0{}clause c optional 5 0{}", 6);
    }

    private static void adviseKinds() {
        // Kind 1, as the one that bars, and as the one that is barred.
        dueAdvice("clause a optional 5 0 bars b{}clause b{}", 0);
        dueAdvice("clause a optional 5 0{}clause b bars a{}", 0);
        dueAdvice("clause a optional 5 0 bars b{}clause b optional 4 0{}", 1);
        dueAdvice("clause a optional 5 0 bars b{}clause b optional 6 0{}", 2);
        // Kind 2: what is needed, and dropped.
        Desk desk = Desks.taught("clause a optional 5 0 needs b{}clause b{}");
        EDGES.due("b free", desk.advise(), 1);
        desk.choose(1, 0);
        EDGES.due("b dropped", desk.advise(), 0);
        // The other kinds do not matter.
        dueAdvice("clause a optional 5 0{}clause b{ref x use t def u}clause x when 1<1{}", 1);
        dueAdvice("clause a optional 5 0 after b{ref x use t use u def u def u def v}clause b after a{}clause x when 1<1{}", 1);
    }

    private static void adviseBeyondSixty() {
        String uses = "clause a{" + "use t ".repeat(60) + "}";
        dueAdvice(uses + "clause b optional 9 0{}clause c optional 5 0 bars a{}", 2);
        dueAdvice(uses + "clause b optional 9 0{}clause c bars b{}", 0);
        dueAdvice(uses + "clause b optional 9 0{}clause c bars a{}", -1);
        dueAdvice("clause a{" + "use t ".repeat(59) + "}clause b optional 9 0{}clause c bars a{}", -1);
        Desk needs = Desks.taught(uses + "clause b needs c{}clause c{}");
        EDGES.due("c free", needs.advise(), 0);
        needs.choose(2, 0);
        EDGES.due("c dropped", needs.advise(), -1);
    }

    private static void adviseGreatestWorth() {
        dueAdvice("clause a optional 5 4{}clause b optional 4 5{}clause c optional 1 0{}", 5);
        dueAdvice("clause a optional 3 0 bars b bars c{}clause b optional 2 0{}clause c optional 2 0{}", 6);
        dueAdvice("clause a optional 5 0 bars b bars c{}clause b optional 2 0{}clause c optional 2 0{}", 1);
        // Below 0 as well, if nothing else is left.
        dueAdvice("clause a needs b{}clause b optional 0 9{}clause c optional 0 1{}", 0);
        dueAdvice(Desks.many("clause c# optional 99999 0{}", 0, 7) + "clause d optional 0 99999 needs c0{}", 127);
        // Free ones that are in by need count, whoever needs them.
        dueAdvice("clause a optional 2 0 needs b{}clause b optional 0 1 needs c{}clause c optional 0 2{}", 0);
        dueAdvice("clause a optional 4 0 needs b{}clause b optional 0 1 needs c{}clause c optional 0 2{}", 1);
    }

    private static void adviseLeastSum() {
        dueAdvice("clause a optional 4 4{}", 0);
        dueAdvice("clause a optional 5 0 bars b{}clause b optional 5 0{}", 1);
        dueAdvice("clause a{}clause b optional 5 0{}clause c optional 5 0 bars b{}", 2);
        dueAdvice("clause a optional 0 0{}clause b optional 5 0{}clause c optional 0 0{}", 2);
        dueAdvice("clause a optional 3 0 bars c{}clause b optional 3 0 bars c{}clause c optional 6 0{}", 3);
        dueAdvice("clause a optional 5 0 needs b{}clause b optional 5 0{}", 1);
        dueAdvice("clause a optional 5 0{}clause b optional 5 0 needs a{}", 2);
    }

    private static void adviseNothing() {
        dueAdvice("clause a bars b{}clause b{}", -1);
        dueAdvice("clause a bars b{}clause b{}clause c optional 9 0{}", -1);
        dueAdvice("clause a needs b{}clause b when 1<1 bars a{}", -1);
        Desk desk = Desks.taught("clause a needs b{}clause b{}clause c optional 1 1{}");
        EDGES.due("all free", desk.advise(), 0);
        desk.choose(1, 0);
        EDGES.due("b dropped", desk.advise(), -1);
        desk.choose(0, 0);
        EDGES.due("a and b dropped", desk.advise(), 0);
        // What the optional ones mend by being chosen or not is no reason for -1.
        dueAdvice("clause a{}clause b optional 0 9 bars a{}", 0);
    }

    // ---- calmest

    private static final String CALM = "fact f=7;clause a{if f>-3{use t}if f>5{use t}if f<-8{use t}if f<-20{use t use t}}";

    private static void dueCalmest(int low, int high, int due) {
        Desk desk = Desks.taught(CALM);
        long before = desk.digest();
        EDGES.due("calmest(0, " + low + ", " + high + ")", desk.calmest(0, low, high), due);
        EDGES.due("digest() behind it", desk.digest(), before);
    }

    private static void calmestLow() {
        dueCalmest(-1000, -1000, -1000);
        dueCalmest(-1000, -960, -1000);
        dueCalmest(1000, 1000, 1000);
        dueCalmest(-5, 5, -5);
        dueCalmest(-4, 5, -4);
        dueCalmest(-2, 5, -2);
        Desk desk = Desks.taught(CALM);
        EDGES.dueArgument("calmest(0, -1001, -1001)", desk, () -> desk.calmest(0, -1001, -1001));
        EDGES.dueArgument("calmest(0, -1001, -1000)", desk, () -> desk.calmest(0, -1001, -1000));
        EDGES.dueArgument("calmest(0, 1001, 1001)", desk, () -> desk.calmest(0, 1001, 1001));
        EDGES.dueArgument("calmest(0, least, least)", desk, () -> desk.calmest(0, Integer.MIN_VALUE, Integer.MIN_VALUE));
    }

    private static void calmestHigh() {
        dueCalmest(-12, -12, -12);
        dueCalmest(-12, -9, -12);
        // The greatest one is tried as well.
        dueCalmest(-12, -8, -8);
        dueCalmest(960, 1000, 960);
        dueCalmest(999, 1000, 999);
        Desk desk = Desks.taught(CALM);
        EDGES.dueArgument("calmest(0, 5, 4)", desk, () -> desk.calmest(0, 5, 4));
        EDGES.dueArgument("calmest(0, 1000, 1001)", desk, () -> desk.calmest(0, 1000, 1001));
        EDGES.dueArgument("calmest(0, 1000, 999)", desk, () -> desk.calmest(0, 1000, 999));
        EDGES.dueArgument("calmest(0, 0, greatest)", desk, () -> desk.calmest(0, 0, Integer.MAX_VALUE));
    }

    private static void calmestSpan() {
        dueCalmest(-48, -8, -8);
        dueCalmest(-47, -8, -8);
        dueCalmest(-1000, -960, -1000);
        Desk desk = Desks.taught(CALM);
        EDGES.dueArgument("calmest(0, -49, -8)", desk, () -> desk.calmest(0, -49, -8));
        EDGES.dueArgument("calmest(0, 0, 41)", desk, () -> desk.calmest(0, 0, 41));
        EDGES.dueArgument("calmest(0, -1000, 1000)", desk, () -> desk.calmest(0, -1000, 1000));
        EDGES.dueArgument("calmest(0, -1000, greatest)", desk, () -> desk.calmest(0, -1000, Integer.MAX_VALUE));
    }

    private static void calmestLeast() {
        dueCalmest(-30, 10, -8);
        dueCalmest(-8, 10, -8);
        dueCalmest(-7, 10, -7);
        dueCalmest(-3, 10, -3);
        dueCalmest(-2, 10, -2);
        dueCalmest(6, 10, 6);
        // The fact has its value again, be it among those that are tried or not.
        Desk desk = Desks.taught(CALM);
        desk.setFact(0, -99999);
        EDGES.due("calmest(0, -2, 0)", desk.calmest(0, -2, 0), -2);
        EDGES.due("fact(0)", desk.fact(0), -99999);
        EDGES.due("count(6)", desk.count(6), 3);
        Desk chosen = Desks.taught("fact f=7;clause a optional 1 1{if f<7{use t}}clause b{use t}");
        chosen.choose(0, 1);
        chosen.choose(1, 0);
        EDGES.due("calmest(0, 0, 9)", chosen.calmest(0, 0, 9), 7);
        EDGES.due("the contract behind it", Desks.written(chosen), "1. \n");
        // Of several facts, the one that is told.
        Desk two = Desks.taught("fact f=1;fact g=1;clause a{if f<3{use t}if g<4{use t}}");
        EDGES.due("calmest(0, 0, 9)", two.calmest(0, 0, 9), 3);
        EDGES.due("calmest(1, 0, 9)", two.calmest(1, 0, 9), 4);
    }

    private static void calmestTold() {
        // 60 and 61 conflicts: both times 60 are told.
        Desk many = Desks.taught("fact f=1;clause a{" + "use t ".repeat(60) + "if f<1{use t}}");
        EDGES.due("calmest with 61 and 60", many.calmest(0, 0, 1), 0);
        Desk fewer = Desks.taught("fact f=1;clause a{" + "use t ".repeat(59) + "if f<1{use t}}");
        EDGES.due("calmest with 60 and 59", fewer.calmest(0, 0, 1), 1);
        // All kinds count, by what is in with each value.
        Desk kinds = Desks.taught("fact f=9;clause a when f<2 bars b{}clause b{}clause c when f<3{def t}clause d when f<4{ref a}");
        EDGES.due("calmest by tests", kinds.calmest(0, 0, 10), 4);
        EDGES.due("calmest by tests, lower", kinds.calmest(0, 0, 3), 3);
        EDGES.due("calmest by tests, lowest", kinds.calmest(0, 0, 2), 0);
    }

    // ---- drafts

    private static void keptAtFirst() {
        Desk desk = Desks.taught("clause a{'x'}clause b{'y'}");
        EDGES.due("count(9)", desk.count(9), 0);
        EDGES.due("changes", Desks.changes(desk), "2 0 0 0");
        desk.choose(0, 0);
        EDGES.due("changes without a", Desks.changes(desk), "1 0 0 0");
        desk.choose(1, 0);
        EDGES.due("changes without all", Desks.changes(desk), "0 0 0 0");
    }

    private static void kept() {
        Desk desk = Desks.taught(Desks.many("clause c#{'x'}", 0, 16));
        EDGES.due("keep() of sixteen", desk.keep(), 16);
        EDGES.due("count(9)", desk.count(9), 16);
        EDGES.due("changes", Desks.changes(desk), "0 0 0 0");
        for (int clause = 0; clause < 16; clause++) {
            desk.choose(clause, 0);
        }
        EDGES.due("changes without all", Desks.changes(desk), "0 16 0 0");
        EDGES.due("keep() of none", desk.keep(), 0);
        EDGES.due("count(9)", desk.count(9), 0);
        EDGES.due("changes behind it", Desks.changes(desk), "0 0 0 0");
        desk.choose(15, 1);
        EDGES.due("changes with one", Desks.changes(desk), "1 0 0 0");
        EDGES.due("keep() of one", desk.keep(), 1);
        EDGES.due("keep() once more", desk.keep(), 1);
    }

    private static void keptBytes() {
        // The number of a clause changes from two digits to one, its items stay.
        Desk desk = Desks.taught(Desks.many("clause c#{'x'}", 0, 12));
        desk.keep();
        desk.choose(0, 0);
        desk.choose(1, 0);
        desk.choose(2, 0);
        EDGES.due("other numbers alone", Desks.changes(desk), "0 3 0 0");
        // The last bytes of a contract of 71 strings.
        Desk large = Desks.taught("fact f=1;clause a{" + ("'" + "x".repeat(40) + "'").repeat(70) + "show f;}");
        large.keep();
        large.setFact(0, 2);
        EDGES.due("the last byte differs", Desks.changes(large), "0 0 1 0");
        large.setFact(0, 1);
        EDGES.due("the last byte as it was", Desks.changes(large), "0 0 0 0");
    }

    private static void added() {
        Desk desk = Desks.taught("clause a{}clause b optional 1 1{}clause c when 1<1{}");
        desk.keep();
        EDGES.due("changes(0)", desk.changes(0), 0);
        desk.choose(1, 1);
        EDGES.due("changes(0) with b", desk.changes(0), 1);
        desk.choose(2, 1);
        EDGES.due("changes(0) with b and c", desk.changes(0), 2);
        desk.choose(0, 0);
        EDGES.due("changes(0) with b and c, without a", desk.changes(0), 2);
        desk.keep();
        EDGES.due("changes(0) behind keep", desk.changes(0), 0);
        desk.choose(0, -1);
        EDGES.due("changes(0) with a", desk.changes(0), 1);
    }

    private static void removed() {
        Desk desk = Desks.taught("clause a{}clause b{}clause c optional 1 1{}");
        desk.keep();
        EDGES.due("changes(1)", desk.changes(1), 0);
        desk.choose(2, 1);
        EDGES.due("changes(1) with c", desk.changes(1), 0);
        desk.choose(0, 0);
        EDGES.due("changes(1) without a", desk.changes(1), 1);
        desk.choose(1, 0);
        EDGES.due("changes(1) without a and b", desk.changes(1), 2);
        desk.choose(0, -1);
        EDGES.due("changes(1) without b", desk.changes(1), 1);
    }

    private static void differing() {
        Desk desk = Desks.taught("fact f=10;clause a{show f;}clause b{if f<9{'yy'}else{'xy'}}clause c{'z'}clause d{ref c if f>99{ref a}}");
        desk.keep();
        EDGES.due("changes(2)", desk.changes(2), 0);
        desk.setFact(0, 11);
        EDGES.due("changes(2), one other byte", desk.changes(2), 1);
        desk.setFact(0, 8);
        EDGES.due("changes(2), a shorter one, and another first byte", desk.changes(2), 2);
        desk.setFact(0, 1);
        EDGES.due("changes(2), a shorter one that begins alike, and another", desk.changes(2), 2);
        desk.setFact(0, 100);
        EDGES.due("changes(2), longer ones", desk.changes(2), 2);
        desk.setFact(0, 10);
        EDGES.due("changes(2) as it was", desk.changes(2), 0);
        desk.choose(1, 0);
        EDGES.due("changes(2), a ref to another number", desk.changes(2), 1);
        desk.setFact(0, 11);
        EDGES.due("changes(2), and a", desk.changes(2), 2);
        desk.choose(0, 0);
        EDGES.due("changes(2) of those in both", desk.changes(2), 1);
        desk.choose(2, 0);
        EDGES.due("changes(2), a ref to none", desk.changes(2), 1);
        desk.choose(3, 0);
        EDGES.due("changes(2) of none in both", desk.changes(2), 0);
    }

    private static void moved() {
        Desk none = Desks.taught("clause a{}clause b{}");
        EDGES.due("changes(3) of none in both", none.changes(3), 0);
        none.keep();
        EDGES.due("changes(3) of the same", none.changes(3), 0);
        none.choose(0, 0);
        EDGES.due("changes(3) without the first", none.changes(3), 0);
        Desk gap = Desks.taught("clause a{}clause b{}clause c{}");
        gap.keep();
        gap.choose(1, 0);
        EDGES.due("changes(3) without one between two", gap.changes(3), 0);
        // Without e, c that was the first comes behind two others; d stands behind all of them, as it did.
        Desk third = Desks.taught("clause a after e{}clause b after e{}clause c{}clause d after e{}clause e after c{}");
        third.keep();
        EDGES.due("the order with e", Desks.order(third), "ceabd");
        third.choose(4, 0);
        EDGES.due("the order without e", Desks.order(third), "abcd");
        EDGES.due("changes(3) of one moved back", third.changes(3), 1);
        // The dropped one turns two around.
        Desk two = Desks.taught("clause a after c{}clause b{}clause c{}");
        EDGES.due("the order", Desks.order(two), "bca");
        two.keep();
        two.choose(1, 0);
        EDGES.due("the order without b", Desks.order(two), "ca");
        EDGES.due("changes(3) of two that are as they were", two.changes(3), 0);
        two.choose(1, -1);
        two.choose(2, 0);
        EDGES.due("the order without c", Desks.order(two), "ab");
        EDGES.due("changes(3) of two turned around", two.changes(3), 1);
        // From the first to the last place, and back: only this one is moved.
        Desk one = Desks.taught("clause a after x{}" + Desks.many("clause c#{}", 0, 14) + "clause x{}");
        one.keep();
        one.choose(15, 0);
        EDGES.due("the order without x", Desks.order(one), "abcdefghijklmno");
        EDGES.due("changes(3) of the last that is the first", one.changes(3), 1);
        // Eight in the other order: all but one are moved. Between each two of them another one stands, and ties them.
        Desk all = Desks.taught(Desks.many("clause c# after x#{}", 0, 7) + "clause c7{}"
                + "clause x0 after c1{}clause x1 after c2{}clause x2 after c3{}clause x3 after c4{}clause x4 after c5{}"
                + "clause x5 after c6{}clause x6 after c7{}");
        EDGES.due("the order with all", Desks.order(all), "hognfmeldkcjbia");
        all.keep();
        all.choose(11, 0);
        EDGES.due("the order in two parts", Desks.order(all), "dhkcjbiaognfme");
        EDGES.due("changes(3) of two parts, seven in each", all.changes(3), 7);
        for (int clause = 8; clause < 15; clause++) {
            all.choose(clause, 0);
        }
        EDGES.due("the order of eight", Desks.order(all), "abcdefgh");
        EDGES.due("changes(3) of eight turned around", all.changes(3), 7);
    }

    // ---- friction and digest

    private static void friction() {
        EDGES.due("friction() of a new desk", new Desk().friction(), 0.0);
        EDGES.due("friction() of none in", Desks.taught("clause a when 1<1{use t}").friction(), 0.0);
        EDGES.due("friction() of no conflict", Desks.taught("clause a{}").friction(), 0.0);
        EDGES.due("friction() of one by the one that is in", Desks.taught("clause a{def t}clause b when 1<1{}").friction(), 1.0);
        EDGES.due("friction() of one by one", Desks.taught("clause a{use t}").friction(), 1.0);
        EDGES.due("friction() of one by three", Desks.taught("clause a{use t}clause b{}clause c{}").friction(), 1.0 / 3);
        EDGES.due("friction() of two by three", Desks.taught("clause a{use t}clause b{use t}clause c{}").friction(), 2.0 / 3);
        EDGES.due("friction() of one by sixteen", Desks.taught("clause a{use t}" + Desks.many("clause c#{}", 0, 15)).friction(), 0.0625);
        EDGES.due("friction() of 61 by one", Desks.taught("clause a{" + "use t ".repeat(61) + "}").friction(), 60.0);
        EDGES.due("friction() of 61 by seven",
                Desks.taught("clause a{" + "use t ".repeat(61) + "}" + Desks.many("clause c#{}", 0, 6)).friction(), 60.0 / 7);
    }

    private static long digestOf(int... numbers) {
        long d = 641;
        for (int number : numbers) {
            d = d * 31 + number;
        }
        return d;
    }

    private static void digest() {
        EDGES.due("digest() of a new desk", new Desk().digest(), digestOf(new int[14]));
        Desk fact = Desks.taught("fact f=5;fact g=9;");
        fact.setFact(1, -99999);
        EDGES.due("digest() of facts", fact.digest(), digestOf(2, 0, 0, 0, 0, 0, 0, 0, 0, 0, 5, -99999, 0, 0, 0, 0));
        EDGES.due("digest() of a clause", Desks.taught("clause a{}").digest(),
                digestOf(0, 1, 0, 0, 0, 1, 0, 4, 0, 0, -1, 1, 1, 1, 0, 0, 0, 0, 0, '1', '.', ' ', 10, 1, 0, 0, 0));
        Desk full = Desks.taught("clause a optional 2 5 needs b bars b after b{use t}clause b when 1<1{def u}");
        full.choose(0, 1);
        full.keep();
        full.choose(1, 0);
        full.feed(0, 0, 0, 0, 0);
        EDGES.due("digest() of all", full.digest(), digestOf(0, 2, 2, 1, 20, 1, 2, 5, -3, 2,
                1, 1, 1, 1, 1, 2, 2, 2, 1, 0, 0, 0, 0, 0, 0, 0, 0, 3, 0, 1, -1, 0, 0, -1,
                2, 0, 1, 6, 0, 0, '1', '.', ' ', 'T', 10, 0, 1, 0, 0));
    }

    private static void digestWraps() {
        // Fourteen numbers are 0, and 641 times 31 to the 14th has 79 bits.
        BigInteger whole = BigInteger.valueOf(31).pow(14).multiply(BigInteger.valueOf(641));
        EDGES.due("bits of the whole number", whole.bitLength(), 79);
        EDGES.due("digest() of a new desk", new Desk().digest(), whole.longValue());
        Desk least = Desks.taught("clause a{" + "'zz'".repeat(50) + "}");
        String bytes = Desks.written(least);
        int[] numbers = new int[10 + 9 + bytes.length() + 4];
        int[] ahead = {0, 1, 0, 0, 0, 1, 0, bytes.length(), 0, 0, -1, 1, 1, 1, 0, 0, 0, 0, 100};
        System.arraycopy(ahead, 0, numbers, 0, ahead.length);
        for (int i = 0; i < bytes.length(); i++) {
            numbers[ahead.length + i] = bytes.charAt(i);
        }
        numbers[numbers.length - 4] = 1;
        EDGES.due("digest() of a long contract", least.digest(), digestOf(numbers));
    }
}
