import java.util.Arrays;

/** Promises 1 to 12: for each sentence that names an edge a test of its own (what is refused: RefusalsTest). */
public final class StateEdgesTest {
    private static final Desks EDGES = new Desks("StateEdgesTest");

    public static void main(String[] args) {
        use();
        tape();
        teaching();
        counting();
        facts();
        clauses();
        EDGES.close();
    }

    private static void use() {
        EDGES.sentence("An object is used for at most 512 calls after it has been made", StateEdgesTest::lastCall);
    }

    private static void tape() {
        EDGES.sentence("Creates a desk with an empty library and an empty tape.", StateEdgesTest::newDesk);
        EDGES.sentence("Appends twenty bytes to the tape: the four bytes of each number, the highest one first.", StateEdgesTest::bytesFed);
        EDGES.sentence("feed: Returns the number of bytes of the tape. Throws IllegalStateException if there would be more than 3000",
                StateEdgesTest::fedUpTo);
        EDGES.sentence("Shortens the tape to its first bytes.", StateEdgesTest::trimmed);
    }

    private static void teaching() {
        EDGES.sentence("Reads the tape as a library, in the place of the one that was there", StateEdgesTest::inPlace);
        EDGES.sentence("all facts have the numbers that are told", StateEdgesTest::factsAnew);
        EDGES.sentence("all clauses are free", StateEdgesTest::choicesAnew);
        EDGES.sentence("and an empty contract is kept", StateEdgesTest::keptAnew);
        EDGES.sentence("If it has an error, all stays (but the tape is empty).", StateEdgesTest::allStays);
        EDGES.sentence("teach: Returns 0, or the error, 1 to 6.", StateEdgesTest::errors);
        EDGES.sentence("Returns the position of the error of the latest teach(); -1 if it had none, or there was none.",
                StateEdgesTest::placeOfError);
    }

    private static void counting() {
        EDGES.sentence("0 facts, 1 clauses, 2 terms, 3 optional clauses", StateEdgesTest::countsOfLibrary);
        EDGES.sentence("4 bytes of the tape", StateEdgesTest::countOfTape);
        EDGES.sentence("5 clauses that are in, 6 conflicts, 7 bytes of the contract, 8 the worth of the contract, 9 clauses that are kept",
                StateEdgesTest::countsOfContract);
    }

    private static void facts() {
        EDGES.sentence("setFact: value: the value that it has from now on .. Returns its value before.", StateEdgesTest::valuesSet);
        EDGES.sentence("if value is not -99999 to 99999", StateEdgesTest::greatestValues);
        EDGES.sentence("choose: Returns the choice before.", StateEdgesTest::choicesMade);
    }

    private static void clauses() {
        EDGES.sentence("0 its choice", StateEdgesTest::choiceOfClause);
        EDGES.sentence("1 1 if its test holds, or it has none, else 0", StateEdgesTest::testOfClause);
        EDGES.sentence("2 1 if it is in, else 0, 3 its number in the contract, 0 if it is not in", StateEdgesTest::placeOfClause);
        EDGES.sentence("4 1 if it is optional, else 0", StateEdgesTest::optionalClause);
        EDGES.sentence("(5 to 7: as the sum of the powers 2^k of the numbers of clauses, each once)", StateEdgesTest::linksOfClause);
        EDGES.sentence("8 the bytes of its items, as they would be written now (refs by the contract as it is; without the bound)",
                StateEdgesTest::bytesOfClause);
        EDGES.sentence("clauseAt: a number in the contract, from 1", StateEdgesTest::clausesByPlace);
        EDGES.sentence("0 how many defs of it are shown, 1 how many uses", StateEdgesTest::timesShown);
        EDGES.sentence("2 the clause of its first def that is shown, -1 if none is", StateEdgesTest::firstDef);
    }

    // ---- the last call

    private static void lastCall() {
        Desk desk = Desks.taught(RICH);
        while (desk.callsLeft() > 2) {
            desk.setFact(0, desk.callsLeft() % 9);
        }
        desk.setFact(0, 8);
        Desk other = Desks.taught(RICH);
        other.setFact(0, 8);
        EDGES.due("the 512th call, digest()", desk.digest(), other.digest());
        EDGES.due("calls left", desk.callsLeft(), 0);
    }

    // ---- the tape

    private static void newDesk() {
        Desk desk = new Desk();
        for (int what = 0; what <= 9; what++) {
            EDGES.due("count(" + what + ")", desk.count(what), 0);
        }
        for (int what = 0; what <= 3; what++) {
            EDGES.due("changes(" + what + ")", desk.changes(what), 0);
        }
        for (int kind = 1; kind <= 8; kind++) {
            EDGES.due("conflicts(" + kind + ")", desk.conflicts(kind), 0);
        }
        EDGES.due("errorAt()", desk.errorAt(), -1);
        EDGES.due("fewest()", desk.fewest(), 0);
        EDGES.due("advise()", desk.advise(), 0);
        EDGES.due("friction()", desk.friction(), 0.0);
        EDGES.dueIndex("fact(0)", desk, () -> desk.fact(0));
        EDGES.dueIndex("setFact(0, 0)", desk, () -> desk.setFact(0, 0));
        EDGES.dueIndex("choose(0, 0)", desk, () -> desk.choose(0, 0));
        EDGES.dueIndex("clause(0, 0)", desk, () -> desk.clause(0, 0));
        EDGES.dueIndex("clauseAt(1)", desk, () -> desk.clauseAt(1));
        EDGES.dueIndex("term(0, 0)", desk, () -> desk.term(0, 0));
        EDGES.dueIndex("byteAt(0)", desk, () -> desk.byteAt(0));
        EDGES.dueIndex("conflict(0, 0)", desk, () -> desk.conflict(0, 0));
        EDGES.dueIndex("would(0, 0, 0)", desk, () -> desk.would(0, 0, 0));
        EDGES.dueIndex("calmest(0, 0, 0)", desk, () -> desk.calmest(0, 0, 0));
        EDGES.due("keep()", desk.keep(), 0);
        EDGES.due("trim(0)", desk.trim(0), 0);
        EDGES.due("teach()", desk.teach(), 0);
    }

    private static void bytesFed() {
        // One byte that begins no token, at each of the twenty places, all others blanks; with each sign of its number.
        for (int place = 0; place < 20; place++) {
            // Without their highest bit, the last three would be a blank, a line end, and a letter.
            for (int sign : new int[] {0, 127, 128, 255, 128 + 32, 128 + 10, 128 + 'a'}) {
                byte[] bytes = new byte[20];
                Arrays.fill(bytes, (byte) ' ');
                bytes[place] = (byte) sign;
                Desk desk = new Desk();
                desk.feed(Desks.word(bytes, 0), Desks.word(bytes, 4), Desks.word(bytes, 8), Desks.word(bytes, 12), Desks.word(bytes, 16));
                EDGES.due("teach() with " + sign + " at " + place, desk.teach() + " at " + desk.errorAt(), "1 at " + place);
            }
        }
        Desk desk = new Desk();
        Desks.tell(desk, "clause a{'abcdefghi''12345678'");
        desk.feed(0x7d200a20, 0x636c6175, 0x73652062, 0x7b277879, 0x7a277d20);
        EDGES.due("teach() of two feeds", desk.teach(), 0);
        EDGES.due("the contract of two feeds", Desks.written(desk), "1. abcdefghi12345678\n2. xyz\n");
        Desk least = new Desk();
        EDGES.due("feed of the least and greatest", least.feed(Integer.MIN_VALUE, Integer.MAX_VALUE, -1, 0, 1), 20);
        EDGES.due("teach() of these", least.teach() + " at " + least.errorAt(), "1 at 0");
    }

    private static void fedUpTo() {
        Desk desk = new Desk();
        for (int i = 1; i <= 149; i++) {
            EDGES.due("feed", desk.feed(0x20202020, 0x20202020, 0x20202020, 0x20202020, 0x20202020), 20 * i);
        }
        EDGES.due("count(4)", desk.count(4), 2980);
        EDGES.due("the 150th feed", desk.feed(0x20202020, 0x20202020, 0x20202020, 0x20202020, 0x20202020), 3000);
        EDGES.dueState("the 151st feed", desk, () -> desk.feed(0, 0, 0, 0, 0));
        desk.trim(2999);
        EDGES.dueState("feed behind 2999", desk, () -> desk.feed(0, 0, 0, 0, 0));
        desk.trim(2981);
        EDGES.dueState("feed behind 2981", desk, () -> desk.feed(0, 0, 0, 0, 0));
        desk.trim(2980);
        EDGES.due("feed behind 2980", desk.feed(0x20202020, 0x20202020, 0x20202020, 0x20202020, 0x20202021), 3000);
        EDGES.due("teach()", desk.teach() + " at " + desk.errorAt(), "1 at 2999");
        EDGES.due("feed behind teach", desk.feed(0, 0, 0, 0, 0), 20);
    }

    private static void trimmed() {
        Desk desk = new Desk();
        Desks.tell(desk, "fact a=1;fact b=2;");
        EDGES.dueArgument("trim(19)", desk, () -> desk.trim(19));
        EDGES.dueArgument("trim(-1)", desk, () -> desk.trim(-1));
        EDGES.due("trim(18)", desk.trim(18), 18);
        EDGES.due("trim(17)", desk.trim(17), 17);
        EDGES.dueArgument("trim(18) of 17", desk, () -> desk.trim(18));
        EDGES.due("count(4)", desk.count(4), 17);
        EDGES.due("teach() of 17", desk.teach() + " at " + desk.errorAt(), "1 at 17");
        Desks.tell(desk, "fact a=1;fact b=2;");
        desk.trim(9);
        EDGES.due("teach() of 9", desk.teach(), 0);
        EDGES.due("facts", desk.count(0), 1);
        Desks.tell(desk, "!!!");
        EDGES.due("trim(0)", desk.trim(0), 0);
        EDGES.due("count(4)", desk.count(4), 0);
        EDGES.due("teach() of nothing", desk.teach() + " at " + desk.errorAt(), "0 at -1");
    }

    // ---- teach and count

    private static final String RICH = "fact f=5;fact g=6;clause a optional 9 1 needs b{def t use t show f;}"
            + "clause b optional 2 1 after c bars c{use u ref a}clause c when f>g{'c'}clause d{def u}";

    private static void inPlace() {
        Desk desk = Desks.taught(RICH);
        desk.choose(0, 1);
        Desks.tell(desk, "fact h=7;clause x{'x'}");
        EDGES.due("teach()", desk.teach(), 0);
        EDGES.due("counts", desk.count(0) + " " + desk.count(1) + " " + desk.count(2) + " " + desk.count(3), "1 1 0 0");
        EDGES.due("the contract", Desks.written(desk), "1. x\n");
        EDGES.dueIndex("fact(1)", desk, () -> desk.fact(1));
        EDGES.dueIndex("clause(1, 0)", desk, () -> desk.clause(1, 0));
        EDGES.dueIndex("term(0, 0)", desk, () -> desk.term(0, 0));
        EDGES.due("all as on a new desk", desk.digest(), Desks.taught("fact h=7;clause x{'x'}").digest());
        EDGES.due("teach() of nothing", desk.teach(), 0);
        EDGES.due("all as on a new desk", desk.digest(), new Desk().digest());
        Desks.tell(desk, RICH);
        EDGES.due("teach()", desk.teach(), 0);
        EDGES.due("all as on a new desk", desk.digest(), Desks.taught(RICH).digest());
        Desks.tell(desk, RICH);
        EDGES.due("teach()", desk.teach(), 0);
        Desks.tell(desk, "clause a{}clause b{}clause c{}clause d{}");
        EDGES.due("teach()", desk.teach(), 0);
        EDGES.due("all as on a new desk", desk.digest(), Desks.taught("clause a{}clause b{}clause c{}clause d{}").digest());
        // Six times one of 250 items: each is read as if it were the first.
        Desk often = new Desk();
        for (int i = 0; i < 6; i++) {
            Desks.tell(often, "clause a{" + "'x'".repeat(250) + "}");
            EDGES.due("teach()", often.teach(), 0);
            EDGES.due("bytes of its contract", often.count(7), 254);
        }
    }

    private static void factsAnew() {
        Desk desk = Desks.taught(RICH);
        desk.setFact(0, -99999);
        desk.setFact(1, 0);
        Desks.tell(desk, RICH);
        desk.teach();
        EDGES.due("facts", desk.fact(0) + " " + desk.fact(1), "5 6");
        Desks.tell(desk, "fact x=0;fact y=99999;fact z=00001;");
        desk.teach();
        EDGES.due("facts", desk.fact(0) + " " + desk.fact(1) + " " + desk.fact(2), "0 99999 1");
    }

    private static void choicesAnew() {
        Desk desk = Desks.taught(Desks.many("clause c#{}", 0, 16));
        for (int clause = 0; clause < 16; clause++) {
            desk.choose(clause, clause % 2);
        }
        Desks.tell(desk, Desks.many("clause d#{}", 0, 16));
        desk.teach();
        for (int clause = 0; clause < 16; clause++) {
            EDGES.due("the choice of clause " + clause, desk.clause(clause, 0), -1);
        }
        EDGES.due("clauses that are in", desk.count(5), 16);
    }

    private static void keptAnew() {
        Desk desk = Desks.taught("clause a{'x'}clause b{'y'}");
        desk.keep();
        EDGES.due("kept", desk.count(9) + ", changes " + Desks.changes(desk), "2, changes 0 0 0 0");
        Desks.tell(desk, "clause a{'x'}clause b{'y'}");
        desk.teach();
        EDGES.due("kept", desk.count(9) + ", changes " + Desks.changes(desk), "0, changes 2 0 0 0");
    }

    private static String state(Desk desk) {
        return desk.digest() + " " + Desks.changes(desk) + " " + desk.fact(0) + " " + desk.clause(0, 0) + " " + desk.clause(2, 0)
                + " " + desk.count(9) + " " + Desks.written(desk);
    }

    private static void allStays() {
        String[] wrong = {"clause x{", "fact x=1;fact x=1;", "clause x needs y{}", "clause x{show f;}", "clause x{ref x}",
            Desks.many("fact f#=9;", 0, 11)};
        for (int error = 1; error <= 6; error++) {
            Desk desk = Desks.taught(RICH);
            desk.setFact(0, 8);
            desk.choose(2, 0);
            desk.keep();
            desk.choose(0, 1);
            desk.setFact(1, -9);
            String before = state(desk);
            Desks.tell(desk, wrong[error - 1]);
            EDGES.due("teach()", desk.teach(), error);
            EDGES.due("all behind error " + error, state(desk), before);
            EDGES.due("the tape behind error " + error, desk.count(4), 0);
            // It also goes on as if nothing had been.
            desk.choose(2, -1);
            EDGES.due("changes behind error " + error, Desks.changes(desk), "3 0 0 0");
            EDGES.due("setFact behind error " + error, desk.setFact(0, 1), 8);
        }
    }

    private static void errors() {
        EDGES.right("clause a{}");
        EDGES.error(1, "clause a{^");
        EDGES.error(2, "clause a{}clause ^a{}");
        EDGES.error(3, "clause a{ref ^b}");
        EDGES.error(4, "clause a{show ^f;}");
        EDGES.error(5, "clause a{ref ^a}");
        EDGES.error(6, Desks.many("clause c#{}", 0, 16) + "clause ^x{}");
    }

    private static void placeOfError() {
        Desk desk = new Desk();
        EDGES.due("errorAt() at first", desk.errorAt(), -1);
        Desks.tell(desk, "!");
        EDGES.due("errorAt() ahead of teach", desk.errorAt(), -1);
        desk.teach();
        EDGES.due("errorAt() of the first byte", desk.errorAt(), 0);
        Desks.tell(desk, "clause a{ref b}");
        EDGES.due("errorAt() ahead of the next teach", desk.errorAt(), 0);
        desk.teach();
        EDGES.due("errorAt() of the next one", desk.errorAt(), 13);
        desk.keep();
        desk.trim(0);
        EDGES.due("errorAt() behind other calls", desk.errorAt(), 13);
        Desks.tell(desk, "clause a{}");
        desk.teach();
        EDGES.due("errorAt() behind a right one", desk.errorAt(), -1);
        Desks.tell(desk, "clause a{" + " ".repeat(2991));
        desk.teach();
        EDGES.due("errorAt() at the end of a full tape", desk.errorAt(), 3000);
        desk.teach();
        EDGES.due("errorAt() behind an empty tape", desk.errorAt(), -1);
    }

    private static void countsOfLibrary() {
        dueCounts("", "0 0 0 0");
        dueCounts("fact f=1;", "1 0 0 0");
        dueCounts("clause a{}", "0 1 0 0");
        dueCounts("clause a optional 1 1{use t def t}", "0 1 1 1");
        dueCounts("clause a when 1<1{if 1<1{use t}else{def u}}", "0 1 2 0");
        dueCounts(Desks.many("fact f#=1;", 0, 10) + Desks.many("clause a# optional 1 1{use t# use t#}", 0, 8)
                + Desks.many("clause b#{use u# def v#}", 0, 8), "10 16 24 8");
    }

    private static void dueCounts(String library, String due) {
        Desk desk = Desks.taught(library);
        EDGES.due("counts", desk.count(0) + " " + desk.count(1) + " " + desk.count(2) + " " + desk.count(3), due);
    }

    private static void countOfTape() {
        Desk desk = new Desk();
        EDGES.due("count(4)", desk.count(4), 0);
        desk.feed(0, 0, 0, 0, 0);
        EDGES.due("count(4)", desk.count(4), 20);
        desk.trim(19);
        EDGES.due("count(4)", desk.count(4), 19);
        desk.teach();
        EDGES.due("count(4)", desk.count(4), 0);
    }

    private static void countsOfContract() {
        Desk desk = Desks.taught("clause a{use t}clause b optional 3 5{'xy'}clause c{use t}");
        dueContract(desk, "2 2 10 0 0");
        desk.choose(1, 1);
        dueContract(desk, "3 2 16 -2 0");
        desk.keep();
        dueContract(desk, "3 2 16 -2 3");
        for (int clause = 0; clause < 3; clause++) {
            desk.choose(clause, 0);
        }
        dueContract(desk, "0 0 0 0 3");
        desk.keep();
        dueContract(desk, "0 0 0 0 0");
        dueContract(Desks.taught(Desks.many("clause c#{use t use t use t use t}", 0, 16)), "16 60 135 0 0");
    }

    private static void dueContract(Desk desk, String due) {
        EDGES.due("counts of the contract",
                desk.count(5) + " " + desk.count(6) + " " + desk.count(7) + " " + desk.count(8) + " " + desk.count(9), due);
    }

    // ---- facts and choices

    private static void valuesSet() {
        Desk desk = Desks.taught("fact f=1;fact g=2;clause a when f<g{show f;show g;}");
        EDGES.due("setFact(0, 1)", desk.setFact(0, 1), 1);
        EDGES.due("setFact(0, -4)", desk.setFact(0, -4), 1);
        EDGES.due("setFact(1, -4)", desk.setFact(1, -4), 2);
        EDGES.due("the contract of -4 and -4", Desks.written(desk), "");
        EDGES.due("setFact(1, -3)", desk.setFact(1, -3), -4);
        EDGES.due("facts", desk.fact(0) + " " + desk.fact(1), "-4 -3");
        EDGES.due("the contract of -4 and -3", Desks.written(desk), "1. -4-3\n");
    }

    private static void greatestValues() {
        Desk desk = Desks.taught("fact f=1;clause a{show f;}");
        EDGES.due("setFact(0, 99999)", desk.setFact(0, 99999), 1);
        EDGES.due("the contract", Desks.written(desk), "1. 99999\n");
        EDGES.dueArgument("setFact(0, 100000)", desk, () -> desk.setFact(0, 100000));
        EDGES.due("setFact(0, -99999)", desk.setFact(0, -99999), 99999);
        EDGES.due("the contract", Desks.written(desk), "1. -99999\n");
        EDGES.dueArgument("setFact(0, -100000)", desk, () -> desk.setFact(0, -100000));
        EDGES.due("fact(0)", desk.fact(0), -99999);
    }

    private static void choicesMade() {
        Desk desk = Desks.taught(Desks.many("clause c#{}", 0, 16));
        for (int clause : new int[] {0, 15}) {
            int before = -1;
            for (int choice : new int[] {-1, 0, 0, 1, 1, 0, -1, 1, -1}) {
                EDGES.due("choose(" + clause + ", " + choice + ")", desk.choose(clause, choice), before);
                EDGES.due("the choice of it", desk.clause(clause, 0), choice);
                EDGES.due("the choice of another one", desk.clause(7, 0), -1);
                before = choice;
            }
        }
        for (int clause = 0; clause < 16; clause++) {
            EDGES.due("choose(" + clause + ", ..)", desk.choose(clause, clause % 3 - 1), -1);
        }
        for (int clause = 0; clause < 16; clause++) {
            EDGES.due("the choice of " + clause, desk.clause(clause, 0), clause % 3 - 1);
        }
    }

    // ---- clauses and terms

    private static void choiceOfClause() {
        Desk desk = Desks.taught("clause a when 1<1{}clause b optional 1 1{}clause c{}");
        EDGES.due("free", desk.clause(0, 0) + " " + desk.clause(1, 0) + " " + desk.clause(2, 0), "-1 -1 -1");
        desk.choose(0, 1);
        desk.choose(2, 0);
        EDGES.due("chosen, free, dropped", desk.clause(0, 0) + " " + desk.clause(1, 0) + " " + desk.clause(2, 0), "1 -1 0");
    }

    private static void testOfClause() {
        Desk desk = Desks.taught("fact f=1;clause a{}clause b when f<2{}clause c when f<1{}clause d when f<1 optional 1 1{}");
        EDGES.due("tests", tests(desk), "1 1 0 0");
        desk.choose(1, 0);
        desk.choose(2, 1);
        desk.choose(0, 0);
        EDGES.due("tests, whatever the choices", tests(desk), "1 1 0 0");
        desk.setFact(0, 0);
        EDGES.due("tests by another fact", tests(desk), "1 1 1 1");
        desk.setFact(0, 2);
        EDGES.due("tests by another fact", tests(desk), "1 0 0 0");
    }

    private static String tests(Desk desk) {
        return desk.clause(0, 1) + " " + desk.clause(1, 1) + " " + desk.clause(2, 1) + " " + desk.clause(3, 1);
    }

    private static void placeOfClause() {
        Desk desk = Desks.taught("clause a after c{}clause b when 1<1{}clause c{}clause d optional 1 1{}");
        int[][] due = {{1, 2}, {0, 0}, {1, 1}, {0, 0}};
        for (int clause = 0; clause < 4; clause++) {
            EDGES.due("clause(" + clause + ", 2)", desk.clause(clause, 2), due[clause][0]);
            EDGES.due("clause(" + clause + ", 3)", desk.clause(clause, 3), due[clause][1]);
        }
        Desk all = Desks.taught(Desks.many("clause c#{}", 0, 16));
        EDGES.due("the last one of sixteen", all.clause(15, 2) + " " + all.clause(15, 3), "1 16");
        all.choose(0, 0);
        EDGES.due("the first one, dropped", all.clause(0, 2) + " " + all.clause(0, 3), "0 0");
        EDGES.due("the last one of fifteen", all.clause(15, 2) + " " + all.clause(15, 3), "1 15");
    }

    private static void optionalClause() {
        Desk desk = Desks.taught("clause a{}clause b optional 0 0{}clause c when 1<1{}clause d when 1<1 optional 9 9{}");
        EDGES.due("optional ones", desk.clause(0, 4) + " " + desk.clause(1, 4) + " " + desk.clause(2, 4) + " " + desk.clause(3, 4), "0 1 0 1");
        desk.choose(0, 1);
        desk.choose(1, 1);
        EDGES.due("optional ones", desk.clause(0, 4) + " " + desk.clause(1, 4), "0 1");
    }

    private static void linksOfClause() {
        String[] links = {"needs", "bars", "after"};
        for (int i = 0; i < 3; i++) {
            String link = links[i];
            Desk desk = Desks.taught("clause c0 " + link + " c15 " + link + " c1 " + link + " c15{}" + Desks.many("clause c#{}", 1, 14)
                    + "clause c15" + Desks.many(" " + link + " c#", 0, 15) + "{}");
            for (int what = 5; what <= 7; what++) {
                EDGES.due(link + ": clause(0, " + what + ")", desk.clause(0, what), what == 5 + i ? 32770 : 0);
                EDGES.due(link + ": clause(1, " + what + ")", desk.clause(1, what), 0);
                EDGES.due(link + ": clause(15, " + what + ")", desk.clause(15, what), what == 5 + i ? 32767 : 0);
            }
            desk.choose(15, 0);
            EDGES.due(link + ": whatever is in", desk.clause(0, 5 + i), 32770);
        }
    }

    private static void bytesOfClause() {
        Desk desk = Desks.taught("fact f=9;clause a{}clause b{'xy'show f;}clause c when 1<1{ref b ref d'z'}clause d{ref c ref a}");
        EDGES.due("bytes", bytes(desk), "0 3 3 2");
        desk.setFact(0, -10);
        EDGES.due("bytes", bytes(desk), "0 5 3 2");
        desk.choose(1, 0);
        EDGES.due("bytes of one that is not in", bytes(desk), "0 5 3 2");
        // A ref of two digits, from a clause that is not in and from one that is.
        Desk many = Desks.taught("clause a when 1<1{ref c14}" + Desks.many("clause c#{}", 0, 14) + "clause c14{ref c0 ref c13 ref a}");
        EDGES.due("refs to the 15th, 1st and 14th, and none", many.clause(0, 8) + " " + many.clause(15, 8), "2 4");
        many.choose(15, 0);
        EDGES.due("a ref to none", many.clause(0, 8), 1);
        for (int clause = 1; clause <= 5; clause++) {
            many.choose(clause, 0);
        }
        many.choose(15, -1);
        EDGES.due("refs to the 10th, none and the 9th, and none", many.clause(0, 8) + " " + many.clause(15, 8), "2 3");
        EDGES.due("the longest", Desks.taught("clause a{" + ("'" + "x".repeat(40) + "'").repeat(71) + "}").clause(0, 8), 2840);
    }

    private static String bytes(Desk desk) {
        return desk.clause(0, 8) + " " + desk.clause(1, 8) + " " + desk.clause(2, 8) + " " + desk.clause(3, 8);
    }

    private static void clausesByPlace() {
        Desk desk = Desks.taught(Desks.many("clause c# after c15{}", 0, 15) + "clause c15{}");
        EDGES.due("clauseAt(1)", desk.clauseAt(1), 15);
        EDGES.due("clauseAt(2)", desk.clauseAt(2), 0);
        EDGES.due("clauseAt(16)", desk.clauseAt(16), 14);
        EDGES.dueIndex("clauseAt(0)", desk, () -> desk.clauseAt(0));
        EDGES.dueIndex("clauseAt(17)", desk, () -> desk.clauseAt(17));
        desk.choose(3, 0);
        EDGES.due("clauseAt(15)", desk.clauseAt(15), 14);
        EDGES.dueIndex("clauseAt(16) of 15", desk, () -> desk.clauseAt(16));
        Desk none = Desks.taught("clause a when 1<1{}");
        EDGES.dueIndex("clauseAt(1) of none", none, () -> none.clauseAt(1));
    }

    private static void timesShown() {
        Desk desk = Desks.taught("clause a{use t if 1<1{use u def u}}clause b when 1<1{def t use t}clause c{" + "def v ".repeat(200) + "}");
        EDGES.due("t", desk.term(0, 0) + " " + desk.term(0, 1), "0 1");
        EDGES.due("u", desk.term(1, 0) + " " + desk.term(1, 1), "0 0");
        EDGES.due("v", desk.term(2, 0) + " " + desk.term(2, 1), "200 0");
        desk.choose(1, 1);
        EDGES.due("t with b", desk.term(0, 0) + " " + desk.term(0, 1), "1 2");
        Desk last = Desks.taught("clause a{" + Desks.many("use t# ", 0, 24) + "def t23 def t23}");
        EDGES.due("the 24th", last.term(23, 0) + " " + last.term(23, 1), "2 1");
    }

    private static void firstDef() {
        Desk desk = Desks.taught("clause a after c{def t}clause b when 1<1{def t}clause c{if 1<1{def t}use t def t}clause d{use u}");
        EDGES.due("c is ahead of a", desk.term(0, 2), 2);
        EDGES.due("no def at all", desk.term(1, 2), -1);
        desk.choose(1, 1);
        EDGES.due("b is ahead of c", desk.term(0, 2), 1);
        desk.choose(1, 0);
        desk.choose(2, 0);
        EDGES.due("a alone", desk.term(0, 2), 0);
        desk.choose(0, 0);
        EDGES.due("none is shown", desk.term(0, 2), -1);
    }
}
