import java.util.Arrays;

/**
 * What each call refuses, on both sides of each limit; which exception comes first; and that nothing is changed then, nor
 * by calls that only ask.
 */
public final class RefusalsTest {
    private static final Desks EDGES = new Desks("RefusalsTest");
    private static final int LEAST = Integer.MIN_VALUE;
    private static final int GREATEST = Integer.MAX_VALUE;
    private static final String INDEX = IndexOutOfBoundsException.class.getName();
    private static final String ARGUMENT = IllegalArgumentException.class.getName();
    private static final String STATE = IllegalStateException.class.getName();

    private static final String LIBRARY = "fact f=5;fact g=6;clause a bars b after c{def t use t show f;ref c}"
            + "clause b optional 9 1 needs c{use u ref a show g;}clause c when f<g optional 2 5{def u def t}"
            + "clause d{points{point{use v}}}clause e optional 1 1{'e'}";
    private static final int FACTS = 2;
    private static final int CLAUSES = 5;
    private static final int TERMS = 3;
    private static final String NEXT_LIBRARY = "fact x=1;clause y{show x;}";

    private interface OnDesk {
        Object answer(Desk desk);
    }

    private interface OnNumber {
        Object answer(Desk desk, int number);
    }

    public static void main(String[] args) {
        tape();
        facts();
        clauses();
        contract();
        wouldBe();
        drafts();
        EDGES.sentence("If several exceptions apply, the one that is named first is thrown.", RefusalsTest::firstNamed);
        EDGES.sentence("A method that throws an exception changes nothing.", RefusalsTest::nothingChanges);
        EDGES.sentence("of several the least sum (nothing is changed); -1 if", RefusalsTest::adviceChangesNothing);
        EDGES.sentence("Nothing is promised beyond the answers and state changes described above", RefusalsTest::asksChangeNothing);
        EDGES.close();
    }

    private static void tape() {
        EDGES.sentence("feed: Throws IllegalStateException if there would be more than 3000", RefusalsTest::feed);
        EDGES.sentence("trim: Throws IllegalArgumentException if n is not 0 to the number of bytes of the tape",
                () -> inRange("trim", (desk, n) -> desk.trim(n), 0, NEXT_LIBRARY.length(), ARGUMENT));
        EDGES.sentence("count: Throws IndexOutOfBoundsException if what is not 0 to 9",
                () -> inRange("count", Desk::count, 0, 9, INDEX));
    }

    private static void facts() {
        EDGES.sentence("setFact: Throws IndexOutOfBoundsException if there is no such fact",
                () -> inRange("setFact(.., 3)", (desk, fact) -> desk.setFact(fact, 3), 0, FACTS - 1, INDEX));
        EDGES.sentence("setFact: Throws IllegalArgumentException if value is not -99999 to 99999",
                () -> inRange("setFact(1, ..)", (desk, value) -> desk.setFact(1, value), -99999, 99999, ARGUMENT));
        EDGES.sentence("fact: Throws IndexOutOfBoundsException if there is no such fact",
                () -> inRange("fact", Desk::fact, 0, FACTS - 1, INDEX));
    }

    private static void clauses() {
        EDGES.sentence("choose: Throws IndexOutOfBoundsException if there is no such clause",
                () -> inRange("choose(.., 0)", (desk, clause) -> desk.choose(clause, 0), 0, CLAUSES - 1, INDEX));
        EDGES.sentence("choose: Throws IllegalArgumentException if choice is not -1 to 1",
                () -> inRange("choose(1, ..)", (desk, choice) -> desk.choose(1, choice), -1, 1, ARGUMENT));
        EDGES.sentence("clause: Throws IndexOutOfBoundsException if there is no such clause, or what is not 0 to 8", () -> {
            inRange("clause(.., 2)", (desk, clause) -> desk.clause(clause, 2), 0, CLAUSES - 1, INDEX);
            inRange("clause(2, ..)", (desk, what) -> desk.clause(2, what), 0, 8, INDEX);
        });
        EDGES.sentence("clauseAt: Throws IndexOutOfBoundsException if there is no such number in it",
                () -> inRange("clauseAt", Desk::clauseAt, 1, 4, INDEX));
        EDGES.sentence("term: Throws IndexOutOfBoundsException if there is no such term, or what is not 0 to 2", () -> {
            inRange("term(.., 0)", (desk, term) -> desk.term(term, 0), 0, TERMS - 1, INDEX);
            inRange("term(0, ..)", (desk, what) -> desk.term(0, what), 0, 2, INDEX);
        });
    }

    private static void contract() {
        EDGES.sentence("byteAt: Throws IndexOutOfBoundsException if there is no such place",
                () -> inRange("byteAt", Desk::byteAt, 0, inTheMidst().count(7) - 1, INDEX));
        EDGES.sentence("conflict: Throws IndexOutOfBoundsException if there is no such conflict, or what is not 0 to 2", () -> {
            inRange("conflict(.., 1)", (desk, index) -> desk.conflict(index, 1), 0, inTheMidst().count(6) - 1, INDEX);
            inRange("conflict(1, ..)", (desk, what) -> desk.conflict(1, what), 0, 2, INDEX);
        });
        EDGES.sentence("conflicts: Throws IndexOutOfBoundsException if kind is not 1 to 8",
                () -> inRange("conflicts", Desk::conflicts, 1, 8, INDEX));
    }

    private static void wouldBe() {
        EDGES.sentence("would: Throws IndexOutOfBoundsException if there is no such clause, or what is not 0 to 3", () -> {
            inRange("would(.., 1, 1)", (desk, clause) -> desk.would(clause, 1, 1), 0, CLAUSES - 1, INDEX);
            inRange("would(1, 1, ..)", (desk, what) -> desk.would(1, 1, what), 0, 3, INDEX);
        });
        EDGES.sentence("would: Throws IllegalArgumentException if choice is not -1 to 1",
                () -> inRange("would(1, .., 2)", (desk, choice) -> desk.would(1, choice, 2), -1, 1, ARGUMENT));
        EDGES.sentence("calmest: Throws IndexOutOfBoundsException if there is no such fact",
                () -> inRange("calmest(.., 0, 9)", (desk, fact) -> desk.calmest(fact, 0, 9), 0, FACTS - 1, INDEX));
        EDGES.sentence("calmest: Throws IllegalArgumentException if low is not -1000 to 1000",
                () -> inRange("calmest(0, .., ..)", (desk, low) -> desk.calmest(0, low, low), -1000, 1000, ARGUMENT));
        EDGES.sentence("calmest: Throws IllegalArgumentException if .. high is not low to 1000",
                () -> inRange("calmest(1, 980, ..)", (desk, high) -> desk.calmest(1, 980, high), 980, 1000, ARGUMENT));
        EDGES.sentence("calmest: Throws IllegalArgumentException if .. high is more than 40 greater than low", () -> {
            inRange("calmest(1, -7, ..)", (desk, high) -> desk.calmest(1, -7, high), -7, 33, ARGUMENT);
            inRange("calmest(1, .., 33)", (desk, low) -> desk.calmest(1, low, 33), -7, 33, ARGUMENT);
        });
    }

    private static void drafts() {
        EDGES.sentence("changes: Throws IndexOutOfBoundsException if what is not 0 to 3",
                () -> inRange("changes", Desk::changes, 0, 3, INDEX));
    }

    // ---- a desk that is refused

    /** A desk with all that a call could change: values, choices, a kept contract, an error, and bytes on the tape. */
    private static Desk inTheMidst() {
        Desk desk = Desks.taught(LIBRARY);
        desk.setFact(0, 4);
        desk.choose(1, 1);
        desk.keep();
        desk.choose(4, 1);
        desk.choose(0, 0);
        desk.choose(2, 1);
        desk.setFact(1, 12);
        Desks.tell(desk, "fact f=1;fact f=2;");
        desk.teach();
        Desks.tell(desk, NEXT_LIBRARY);
        return desk;
    }

    /** Answers by which any two desks can be told apart that are not as inTheMidst() makes them. */
    private static String probe(Desk desk) {
        StringBuilder told = new StringBuilder();
        told.append(desk.errorAt()).append(' ').append(desk.digest()).append(' ').append(Desks.changes(desk));
        told.append(' ').append(desk.fewest()).append(' ').append(desk.advise()).append(' ').append(desk.friction());
        for (int clause = 0; clause < CLAUSES; clause++) {
            for (int choice = -1; choice <= 1; choice++) {
                told.append(' ').append(desk.would(clause, choice, 1)).append(',').append(desk.would(clause, choice, 3));
            }
        }
        for (int fact = 0; fact < FACTS; fact++) {
            told.append(' ').append(desk.calmest(fact, -5, 20));
        }
        // What is kept comes to light by what differs from it.
        for (int clause = 0; clause < CLAUSES; clause++) {
            for (int choice : new int[] {1, 0, -1}) {
                told.append(' ').append(desk.choose(clause, choice)).append(':').append(Desks.changes(desk));
            }
        }
        for (int fact = 0; fact < FACTS; fact++) {
            told.append(' ').append(desk.setFact(fact, 5)).append(':').append(Desks.changes(desk));
        }
        told.append(' ').append(desk.count(4)).append(' ').append(desk.teach()).append(' ').append(desk.errorAt());
        return told.append(' ').append(desk.digest()).toString();
    }

    private static void refused(String what, OnDesk call, String due) {
        Desk desk = inTheMidst();
        EDGES.due(what, Desks.told(() -> call.answer(desk)), due);
        EDGES.due("a desk behind " + what, probe(desk), probe(inTheMidst()));
    }

    private static void answered(String what, OnDesk call) {
        Desk desk = inTheMidst();
        EDGES.due(what + " is refused", Desks.told(() -> call.answer(desk)).endsWith("Exception"), false);
    }

    /** The call is answered for the numbers from the first to the last, and refused for all others. */
    private static void inRange(String what, OnNumber call, int first, int last, String due) {
        answered(what + " of " + first, desk -> call.answer(desk, first));
        answered(what + " of " + last, desk -> call.answer(desk, last));
        answered(what + " of the middle", desk -> call.answer(desk, (first + last) / 2));
        int[] wrong = {first - 1, last + 1, first - 2, last + 2, LEAST, GREATEST, first - 65536, last + 65536, last + 1000000};
        for (int number : wrong) {
            refused(what + " of " + number, desk -> call.answer(desk, number), due);
        }
    }

    // ---- refusals

    private static void feed() {
        for (int bytes = 2979; bytes <= 3000; bytes++) {
            String text = "clause a{'x'}" + " ".repeat(bytes - 14) + (bytes % 2 == 0 ? " " : "\n");
            Desk desk = new Desk();
            Desks.tell(desk, text);
            int blanks = 0x20202020;
            boolean refuses = bytes > 2980;
            // What is refused would make an error of the library on the tape.
            int last = refuses ? 0x21212121 : blanks;
            EDGES.due("feed behind " + bytes, Desks.told(() -> desk.feed(last, blanks, blanks, blanks, last)),
                    refuses ? STATE : "" + (bytes + 20));
            EDGES.due("count(4) behind it", desk.count(4), refuses ? bytes : bytes + 20);
            EDGES.due("teach() behind it", desk.teach() + " at " + desk.errorAt(), "0 at -1");
            EDGES.due("clauses behind it", desk.count(1), 1);
        }
    }

    private static void firstNamed() {
        for (int fact : new int[] {-1, FACTS, LEAST, GREATEST}) {
            refused("setFact(" + fact + ", 100000)", desk -> desk.setFact(fact, 100000), INDEX);
            refused("setFact(" + fact + ", least)", desk -> desk.setFact(fact, LEAST), INDEX);
            refused("calmest(" + fact + ", -1001, 0)", desk -> desk.calmest(fact, -1001, -1000), INDEX);
            refused("calmest(" + fact + ", 5, 4)", desk -> desk.calmest(fact, 5, 4), INDEX);
            refused("calmest(" + fact + ", 0, 41)", desk -> desk.calmest(fact, 0, 41), INDEX);
            refused("calmest(" + fact + ", 1000, 1001)", desk -> desk.calmest(fact, 1000, 1001), INDEX);
        }
        for (int clause : new int[] {-1, CLAUSES, LEAST, GREATEST}) {
            refused("choose(" + clause + ", 2)", desk -> desk.choose(clause, 2), INDEX);
            refused("choose(" + clause + ", -2)", desk -> desk.choose(clause, -2), INDEX);
            refused("would(" + clause + ", 2, 0)", desk -> desk.would(clause, 2, 0), INDEX);
            refused("would(" + clause + ", -2, 4)", desk -> desk.would(clause, -2, 4), INDEX);
        }
        for (int what : new int[] {-1, 4, LEAST, GREATEST}) {
            refused("would(0, 2, " + what + ")", desk -> desk.would(0, 2, what), INDEX);
            refused("would(0, -2, " + what + ")", desk -> desk.would(0, -2, what), INDEX);
        }
        refused("would(0, 2, 3)", desk -> desk.would(0, 2, 3), ARGUMENT);
        refused("setFact(1, 100000)", desk -> desk.setFact(1, 100000), ARGUMENT);
        refused("choose(4, 2)", desk -> desk.choose(4, 2), ARGUMENT);
        refused("calmest(1, 0, 41)", desk -> desk.calmest(1, 0, 41), ARGUMENT);
    }

    /** All that is refused, on one desk, which is then as one that was asked for nothing. */
    private static void nothingChanges() {
        OnDesk[] calls = {
            desk -> desk.trim(-1), desk -> desk.trim(NEXT_LIBRARY.length() + 1), desk -> desk.count(-1), desk -> desk.count(10),
            desk -> desk.setFact(-1, 1), desk -> desk.setFact(2, 1), desk -> desk.setFact(0, 100000), desk -> desk.setFact(1, -100000),
            desk -> desk.fact(-1), desk -> desk.fact(2), desk -> desk.choose(-1, 1), desk -> desk.choose(5, 0), desk -> desk.choose(0, 2),
            desk -> desk.choose(1, -2), desk -> desk.clause(-1, 0), desk -> desk.clause(5, 0), desk -> desk.clause(0, -1),
            desk -> desk.clause(0, 9), desk -> desk.clauseAt(0), desk -> desk.clauseAt(5), desk -> desk.term(-1, 0),
            desk -> desk.term(3, 0), desk -> desk.term(0, 3), desk -> desk.byteAt(-1), desk -> desk.byteAt(6000),
            desk -> desk.conflict(-1, 0), desk -> desk.conflict(60, 0), desk -> desk.conflict(0, 3), desk -> desk.conflicts(0),
            desk -> desk.conflicts(9), desk -> desk.would(-1, 0, 0), desk -> desk.would(5, 0, 0), desk -> desk.would(0, 2, 0),
            desk -> desk.would(0, 0, 4), desk -> desk.calmest(2, 0, 0), desk -> desk.calmest(0, -1001, -1000),
            desk -> desk.calmest(0, 1, 0), desk -> desk.calmest(1, 1000, 1001), desk -> desk.calmest(1, 0, 41),
            desk -> desk.changes(-1), desk -> desk.changes(4)};
        Desk desk = inTheMidst();
        for (int i = 0; i < calls.length; i++) {
            OnDesk call = calls[i];
            EDGES.due("the call " + i + " is refused", Desks.told(() -> call.answer(desk)).endsWith("Exception"), true);
        }
        EDGES.due("a desk behind all of them", probe(desk), probe(inTheMidst()));
        EDGES.due("the tape behind all of them", Desks.written(desk), "1. 1\n");
    }

    // ---- calls that only ask

    private static void asked(String what, OnDesk call) {
        askedBehind(what, desk -> "", call);
    }

    /** The call answers the same again and again, and behind it a desk is as one that was not asked. */
    private static void askedBehind(String what, OnDesk ahead, OnDesk call) {
        Desk desk = inTheMidst();
        ahead.answer(desk);
        Object first = call.answer(desk);
        EDGES.due(what + " again", call.answer(desk), first);
        EDGES.due(what + " once more", call.answer(desk), first);
        Desk other = inTheMidst();
        ahead.answer(other);
        EDGES.due("a desk behind " + what, probe(desk), probe(other));
    }

    private static void adviceChangesNothing() {
        for (int i = 0; i < 27; i++) {
            int[] choices = {i / 9 - 1, i / 3 % 3 - 1, i % 3 - 1};
            askedBehind("advise() with the choices " + Arrays.toString(choices),
                    desk -> desk.choose(1, choices[0]) + desk.choose(2, choices[1]) + desk.choose(4, choices[2]), Desk::advise);
        }
        String text = "clause a optional 5 0{'a'}clause b optional 4 0 bars a{use t}clause c{use t}clause d optional 1 0 needs b{}";
        Desk desk = Desks.taught(text);
        desk.keep();
        long before = desk.digest();
        EDGES.due("advise()", desk.advise() + " " + desk.advise(), "1 1");
        EDGES.due("digest() behind it", desk.digest(), before);
        EDGES.due("the contract behind it", Desks.written(desk) + Desks.found(desk), "1. T\n6:2,0");
        EDGES.due("the choices behind it", desk.choose(0, 1) + " " + desk.choose(1, 1) + " " + desk.choose(3, 1), "-1 -1 -1");
        EDGES.due("advise() then", desk.advise() + " " + desk.advise(), "-1 -1");
        EDGES.due("the contract then", Desks.written(desk) + Desks.found(desk), "1. a\n2. T\n3. T\n4. \n1:1,0 6:1,0 6:2,0");
    }

    private static void asksChangeNothing() {
        asked("errorAt()", Desk::errorAt);
        asked("fewest()", Desk::fewest);
        asked("friction()", Desk::friction);
        asked("digest()", Desk::digest);
        askedFor("count", Desk::count, 0, 9);
        askedFor("fact", Desk::fact, 0, FACTS - 1);
        askedFor("clauseAt", Desk::clauseAt, 1, 4);
        askedFor("byteAt", Desk::byteAt, 0, 5);
        askedFor("conflicts", Desk::conflicts, 1, 8);
        for (int what = 0; what <= 3; what++) {
            int told = what;
            // The clauses a and b have changed their places since they were kept.
            askedBehind("changes(" + told + ")", desk -> desk.choose(0, 1) + desk.choose(2, 0), desk -> desk.changes(told));
        }
        for (int clause = 0; clause < CLAUSES; clause++) {
            int of = clause;
            askedFor("clause(" + of + ", ..)", (desk, what) -> desk.clause(of, what), 0, 8);
            askedFor("would(" + of + ", 1, ..)", (desk, what) -> desk.would(of, 1, what), 0, 3);
            askedFor("would(" + of + ", 0, ..)", (desk, what) -> desk.would(of, 0, what), 0, 3);
        }
        for (int what = 0; what < 3; what++) {
            int told = what;
            askedFor("term(.., " + told + ")", (desk, term) -> desk.term(term, told), 0, TERMS - 1);
            askedFor("conflict(.., " + told + ")", (desk, index) -> desk.conflict(index, told), 0, 2);
        }
        askedFor("calmest(.., -20, 20)", (desk, fact) -> desk.calmest(fact, -20, 20), 0, FACTS - 1);
    }

    private static void askedFor(String what, OnNumber call, int first, int last) {
        for (int number = first; number <= last; number++) {
            int of = number;
            asked(what + " of " + of, desk -> call.answer(desk, of));
        }
    }
}
