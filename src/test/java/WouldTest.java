/** Promises 17 to 19: what would be with another choice, with the best ones, or with another value. */
public final class WouldTest {
    private static final Desks DESKS = new Desks("WouldTest");

    public static void main(String[] args) {
        would();
        advise();
        calmest();
        DESKS.close();
    }

    private static void would(Desk desk, int clause, int choice, String due) {
        long before = desk.digest();
        StringBuilder told = new StringBuilder();
        for (int what = 0; what <= 3; what++) {
            told.append(what == 0 ? "" : " ").append(desk.would(clause, choice, what));
        }
        DESKS.due("would(" + clause + ", " + choice + ", 0 to 3)", told.toString(), due);
        DESKS.due("digest behind it", desk.digest(), before);
    }

    private static void would() {
        Desk desk = Desks.taught("clause a{'aa'ref b}clause b optional 7 3 needs c bars a{}clause c optional 1 9{use t}");
        would(desk, 0, -1, "1 1 0 7");
        would(desk, 0, 1, "1 1 0 7");
        would(desk, 0, 0, "0 0 0 0");
        would(desk, 1, -1, "1 1 0 7");
        would(desk, 1, 1, "3 2 -4 16");
        would(desk, 1, 0, "1 1 0 7");
        would(desk, 2, 1, "2 2 -8 12");
        desk.choose(1, 1);
        would(desk, 2, 0, "2 2 4 11");
        would(desk, 1, -1, "1 1 0 7");
        would(desk, 1, 1, "3 2 -4 16");
        desk.choose(2, 0);
        would(desk, 2, -1, "3 2 -4 16");
        would(desk, 1, 0, "1 1 0 7");
        DESKS.dueIndex("would(3, 0, 0)", desk, () -> desk.would(3, 0, 0));
        DESKS.dueIndex("would(-1, 0, 0)", desk, () -> desk.would(-1, 0, 0));
        DESKS.dueIndex("would(0, 0, 4)", desk, () -> desk.would(0, 0, 4));
        DESKS.dueIndex("would(0, 0, -1)", desk, () -> desk.would(0, 0, -1));
        DESKS.dueIndex("would(0, 2, 4)", desk, () -> desk.would(0, 2, 4));
        DESKS.dueIndex("would(3, 2, 0)", desk, () -> desk.would(3, 2, 0));
        DESKS.dueArgument("would(0, 2, 0)", desk, () -> desk.would(0, 2, 0));
        DESKS.dueArgument("would(0, -2, 3)", desk, () -> desk.would(0, -2, 3));
        Desk many = Desks.taught("clause a optional 1 1{" + "use t ".repeat(61) + "}");
        would(many, 0, 1, "1 60 0 65");
    }

    private static void advise(String text, int due) {
        Desk desk = Desks.taught(text);
        long before = desk.digest();
        DESKS.due("advise of " + text, desk.advise(), due);
        DESKS.due("digest behind it", desk.digest(), before);
    }

    private static void advise() {
        advise("clause a{}", 0);
        advise("clause a{}clause b{}clause c bars a{}", -1);
        advise("clause a{}clause b optional 5 4{}clause c optional 4 4{}clause d optional 4 5{}", 2);
        advise("clause a optional 5 4 bars b{}clause b optional 9 8{}", 1);
        advise("clause a optional 5 4 bars b{}clause b optional 9 7{}", 2);
        advise("clause a optional 1 2 needs b{}clause b optional 5 3{}", 2);
        advise("clause a optional 5 3 needs b{}clause b optional 2 3{}", 1);
        advise("clause a optional 5 3 needs b{}clause b optional 3 3{}", 1);
        advise("clause a optional 5 3{}clause b optional 3 3 needs a{}", 1);
        advise("clause a{}clause b optional 9 1 bars a{}clause c optional 2 1{}", 4);
        advise("clause a needs b{}clause b optional 1 9 bars c{}clause c optional 9 1{}", 0);
        advise("clause a needs b{}clause b optional 1 9 bars c needs c{}clause c optional 9 1{}", -1);
        advise("clause a optional 1 9{}clause b optional 99999 0{}clause c optional 0 99999 bars b{}", 2);
        advise("clause a{ref b use t def u def u}clause b optional 1 1 after c{}clause c after b{}", 0);
        advise("clause a optional 1 0{}clause b optional 1 0{}clause c optional 1 0{}clause d optional 1 0{}clause e optional 1 0{}"
                + "clause f optional 1 0{}clause g optional 1 0{}clause h{}clause i optional 1 0 bars a{}", 127);
        advise("clause a{" + "use t ".repeat(60) + "}clause b optional 9 1 bars a{}clause c optional 2 1{}", 4);

        Desk desk = Desks.taught("clause a optional 5 1 needs c{}clause b optional 4 1 bars a{}clause c when 1<1{}");
        DESKS.due("advise", desk.advise(), 1);
        desk.choose(2, 0);
        DESKS.due("advise without c", desk.advise(), 2);
        desk.choose(1, 0);
        DESKS.due("advise without b and c", desk.advise(), 0);
        desk.choose(0, 1);
        DESKS.due("advise without b and c, with a", desk.advise(), -1);
        desk.choose(2, -1);
        desk.choose(1, -1);
        DESKS.due("advise with a", desk.advise(), 0);
        desk.choose(1, 1);
        DESKS.due("advise with a and b", desk.advise(), -1);
        Desk facts = Desks.taught("fact f=1;clause a when f<1{}clause b optional 2 1 bars a{}");
        DESKS.due("advise", facts.advise(), 2);
        facts.setFact(0, 0);
        DESKS.due("advise, a in", facts.advise(), 0);
        facts.choose(0, 0);
        DESKS.due("advise, a dropped", facts.advise(), 2);
    }

    private static void calmest(Desk desk, int fact, int low, int high, int due) {
        long before = desk.digest();
        DESKS.due("calmest(" + fact + ", " + low + ", " + high + ")", desk.calmest(fact, low, high), due);
        DESKS.due("digest behind it", desk.digest(), before);
    }

    private static void calmest() {
        Desk desk = Desks.taught("fact f=7;fact g=3;clause a when f>g{use t use t}"
                + "clause b when f*f>20{use t}clause c{if f<-3{use t}if g>2{use t}}");
        calmest(desk, 0, -20, 20, -3);
        calmest(desk, 0, -20, -4, -4);
        calmest(desk, 0, 0, 0, 0);
        calmest(desk, 0, 5, 6, 5);
        calmest(desk, 0, 3, 43, 3);
        calmest(desk, 0, -1000, -960, -1000);
        calmest(desk, 0, 960, 1000, 960);
        calmest(desk, 0, 1000, 1000, 1000);
        calmest(desk, 1, -5, 20, 7);
        calmest(desk, 1, 0, 6, 0);
        desk.choose(0, 0);
        calmest(desk, 1, 0, 6, 0);
        calmest(desk, 1, -40, 0, -40);
        DESKS.dueIndex("calmest(2, 0, 1)", desk, () -> desk.calmest(2, 0, 1));
        DESKS.dueIndex("calmest(-1, 0, 1)", desk, () -> desk.calmest(-1, 0, 1));
        DESKS.dueIndex("calmest(2, 5, 1)", desk, () -> desk.calmest(2, 5, 1));
        DESKS.dueArgument("calmest(0, -1001, 0)", desk, () -> desk.calmest(0, -1001, -1000));
        DESKS.dueArgument("calmest(0, 1001, 1001)", desk, () -> desk.calmest(0, 1001, 1001));
        DESKS.dueArgument("calmest(0, 1, 0)", desk, () -> desk.calmest(0, 1, 0));
        DESKS.dueArgument("calmest(0, 1000, 1001)", desk, () -> desk.calmest(0, 1000, 1001));
        DESKS.dueArgument("calmest(0, 0, 41)", desk, () -> desk.calmest(0, 0, 41));
        DESKS.dueArgument("calmest(0, least, greatest)", desk, () -> desk.calmest(0, Integer.MIN_VALUE, Integer.MAX_VALUE));
        DESKS.dueArgument("calmest(0, 0, least)", desk, () -> desk.calmest(0, 0, Integer.MIN_VALUE));
        // Those beyond the 60 that are told do not count.
        Desk many = Desks.taught("fact f=1;clause a{" + "use t ".repeat(60) + "if f<1{use t}}");
        calmest(many, 0, 0, 1, 0);
        Desk fewer = Desks.taught("fact f=1;clause a{" + "use t ".repeat(59) + "if f<1{use t}}");
        calmest(fewer, 0, 0, 1, 1);
    }
}
