/** A desk that takes at most 512 calls: nothing is promised about later ones, so no test may ask for more. */
final class Desk {
    static final int MOST_CALLS = 512;

    private final ClauseDesk desk = new ClauseDesk();
    private int calls = 0;

    private ClauseDesk called() {
        calls++;
        if (calls > MOST_CALLS) {
            throw new AssertionError("a test makes more than " + MOST_CALLS + " calls of one desk");
        }
        return desk;
    }

    int callsLeft() {
        return MOST_CALLS - calls;
    }

    int feed(int a, int b, int c, int d, int e) {
        return called().feed(a, b, c, d, e);
    }

    int trim(int n) {
        return called().trim(n);
    }

    int teach() {
        return called().teach();
    }

    int errorAt() {
        return called().errorAt();
    }

    int count(int what) {
        return called().count(what);
    }

    int setFact(int fact, int value) {
        return called().setFact(fact, value);
    }

    int fact(int fact) {
        return called().fact(fact);
    }

    int choose(int clause, int choice) {
        return called().choose(clause, choice);
    }

    int clause(int clause, int what) {
        return called().clause(clause, what);
    }

    int clauseAt(int place) {
        return called().clauseAt(place);
    }

    int term(int term, int what) {
        return called().term(term, what);
    }

    int byteAt(int index) {
        return called().byteAt(index);
    }

    int conflict(int index, int what) {
        return called().conflict(index, what);
    }

    int conflicts(int kind) {
        return called().conflicts(kind);
    }

    int fewest() {
        return called().fewest();
    }

    int would(int clause, int choice, int what) {
        return called().would(clause, choice, what);
    }

    int advise() {
        return called().advise();
    }

    int calmest(int fact, int low, int high) {
        return called().calmest(fact, low, high);
    }

    int keep() {
        return called().keep();
    }

    int changes(int what) {
        return called().changes(what);
    }

    double friction() {
        return called().friction();
    }

    long digest() {
        return called().digest();
    }
}
