/** Promises 20 to 23: what is kept, what has changed since, and the checksum. */
public final class DraftsTest {
    private static final Desks DESKS = new Desks("DraftsTest");

    public static void main(String[] args) {
        keeping();
        moving();
        friction();
        digest();
        DESKS.close();
    }

    private static void keeping() {
        Desk desk = Desks.taught("fact f=5;clause a{show f;}clause b{ref c}clause c when f>1{'c'}clause d when f<1{'dd'}");
        DESKS.due("changes at first", Desks.changes(desk), "3 0 0 0");
        DESKS.due("keep()", desk.keep(), 3);
        DESKS.due("count(9)", desk.count(9), 3);
        DESKS.due("changes behind keep", Desks.changes(desk), "0 0 0 0");
        desk.setFact(0, 6);
        DESKS.due("changes, a says 6", Desks.changes(desk), "0 0 1 0");
        desk.setFact(0, 0);
        DESKS.due("changes, c is out and d is in", Desks.changes(desk), "1 1 2 0");
        DESKS.due("count(9)", desk.count(9), 3);
        desk.setFact(0, 5);
        DESKS.due("changes back", Desks.changes(desk), "0 0 0 0");
        desk.choose(0, 0);
        // b says 2 then, where it said 3.
        DESKS.due("changes without a", Desks.changes(desk), "0 1 1 0");
        desk.choose(1, 0);
        desk.choose(2, 0);
        DESKS.due("changes without all", Desks.changes(desk), "0 3 0 0");
        DESKS.due("keep() of nothing", desk.keep(), 0);
        DESKS.due("changes behind it", Desks.changes(desk), "0 0 0 0");
        desk.setFact(0, 0);
        DESKS.due("changes, d is in", Desks.changes(desk), "1 0 0 0");
        DESKS.dueIndex("changes(-1)", desk, () -> desk.changes(-1));
        DESKS.dueIndex("changes(4)", desk, () -> desk.changes(4));
        // The number of a clause in the contract is none of its bytes.
        Desk numbers = Desks.taught("clause a{}clause b{'b'}");
        numbers.keep();
        numbers.choose(0, 0);
        DESKS.due("changes, b is the first", Desks.changes(numbers), "0 1 0 0");
        // Same length, other bytes; and other length.
        Desk bytes = Desks.taught("fact f=1;clause a{'x'show f;'y'}clause b{if f>9{'xy'}else{'x'}}");
        bytes.keep();
        bytes.setFact(0, 2);
        DESKS.due("changes, one other byte", Desks.changes(bytes), "0 0 1 0");
        bytes.setFact(0, 10);
        DESKS.due("changes, other lengths", Desks.changes(bytes), "0 0 2 0");
    }

    private static void moving() {
        Desk desk = Desks.taught("clause a after e{}clause b{}clause c after x{}clause d{}clause e{}clause x{}");
        // All: b d e a x c; without e: a b d x c; without x: b c d e a.
        desk.keep();
        desk.choose(4, 0);
        DESKS.due("a first", Desks.changes(desk), "0 1 0 1");
        desk.choose(5, 0);
        DESKS.due("a b c d", Desks.changes(desk), "0 2 0 2");
        desk.keep();
        desk.choose(4, -1);
        DESKS.due("b c d e a", Desks.changes(desk), "1 0 0 1");
        desk.choose(5, -1);
        DESKS.due("b d e a x c", Desks.changes(desk), "2 0 0 2");
        Desk round = Desks.taught("clause a after b after s{}clause b after c after s{}clause c after d after s{}"
                + "clause d after s{}clause s when 1<1{}clause t after a{}");
        round.keep();
        round.choose(1, 0);
        // Kept: d c b a t; now: a d c t.
        DESKS.due("a d c t", Desks.changes(round), "0 1 0 1");
    }

    private static void friction() {
        Desk desk = Desks.taught("clause a{use t}clause b{}clause c{}");
        DESKS.due("friction", desk.friction(), 1.0 / 3);
        desk.choose(0, 0);
        DESKS.due("friction", desk.friction(), 0.0);
        desk.choose(1, 0);
        desk.choose(2, 0);
        DESKS.due("friction of nothing", desk.friction(), 0.0);
        desk.choose(0, 1);
        DESKS.due("friction", desk.friction(), 1.0);
    }

    private static void digest() {
        Desk desk = Desks.taught("fact f=5;fact g=6;clause a{use t}clause b optional 7 3 bars a{def u}clause c when f<g{show -1;}");
        desk.keep();
        desk.choose(1, 1);
        desk.setFact(1, -6);
        desk.feed(1, 2, 3, 4, 5);
        int[] due = {
            // count
            2, 3, 2, 1, 20, 2, 3, 12, 4, 2,
            5, -6,
            // clause
            -1, 1, 1, 1, 0, 0, 0, 0, 1,
            1, 1, 1, 2, 1, 0, 1, 0, 3,
            -1, 0, 0, 0, 0, 0, 0, 0, 2,
            // term
            0, 1, -1, 1, 0, 1,
            // conflict
            6, 0, 0, 1, 1, 0, 8, 1, 1,
            '1', '.', ' ', 'T', 10, '2', '.', ' ', '"', 'u', '"', 10,
            // changes
            1, 1, 0, 0};
        long d = 641;
        for (int number : due) {
            d = d * 31 + number;
        }
        DESKS.due("digest", desk.digest(), d);
        DESKS.due("digest once more", desk.digest(), d);
    }
}
