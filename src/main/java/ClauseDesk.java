/** A desk where contracts are put together from clauses. */
public final class ClauseDesk {
    private static final int MOST_TAPE = 3000;
    private static final int FED_AT_ONCE = 20;
    private static final int MOST_TOKENS = 600;
    private static final int MOST_DEPTH = 8;
    private static final int MOST_FACTS = 10;
    private static final int MOST_CLAUSES = 16;
    private static final int MOST_OPTIONAL = 8;
    private static final int MOST_TERMS = 24;
    private static final int MOST_BYTES = 6000;
    private static final int MOST_CONFLICTS = 60;
    private static final int MOST_FACT_VALUE = 99999;
    private static final int MOST_TRIED_VALUE = 1000;
    private static final int MOST_TRIED_SPAN = 40;

    private static final int COUNTS = 10;
    private static final int CLAUSE_ANSWERS = 9;
    private static final int TERM_ANSWERS = 3;
    private static final int CONFLICT_ANSWERS = 3;
    private static final int CHANGE_ANSWERS = 4;
    private static final int WOULD_ANSWERS = 4;
    private static final int CONFLICT_KINDS = 8;

    private static final Kind[] KINDS = Kind.values();

    private final byte[] tape = new byte[MOST_TAPE];
    private int tapeLength = 0;
    private int errorPlace = -1;
    private Library library = new Library();
    private Library spare = new Library();
    private final int[] factValues = new int[MOST_FACTS];
    private int chosen = 0;
    private int dropped = 0;
    private final Contract now = new Contract(MOST_BYTES);
    private final Contract trial = new Contract(0);
    private final Scribe gauge = new Scribe();
    private final Page gaugePage = new Page(0);
    private final Draft kept = new Draft(MOST_BYTES);
    private final int[] runs = new int[MOST_CLAUSES];

    public ClauseDesk() {
    }

    // ---- the library

    public int feed(int a, int b, int c, int d, int e) throws IllegalStateException {
        if (tapeLength + FED_AT_ONCE > MOST_TAPE) {
            throw new IllegalStateException();
        }
        append(a);
        append(b);
        append(c);
        append(d);
        append(e);
        return tapeLength;
    }

    public int trim(int n) throws IllegalArgumentException {
        if (n < 0 || n > tapeLength) {
            throw new IllegalArgumentException();
        }
        tapeLength = n;
        return n;
    }

    public int teach() {
        // The spare one is filled, so that the library stays as it is if the tape has an error.
        spare.open(tape, tapeLength);
        tapeLength = 0;
        int error = spare.grammar.accepts() ? spare.lookAtNames() : 1;
        errorPlace = spare.placeOfError(error);
        if (error == 0) {
            takeUpSpare();
            now.draw(library, factValues, chosen, dropped);
        }
        return error;
    }

    public int errorAt() {
        return errorPlace;
    }

    public int count(int what) throws IndexOutOfBoundsException {
        if (what < 0 || what >= COUNTS) {
            throw new IndexOutOfBoundsException();
        }
        return counted(what);
    }

    // ---- facts and choices

    public int setFact(int fact, int value) throws IndexOutOfBoundsException, IllegalArgumentException {
        if (!isFact(fact)) {
            throw new IndexOutOfBoundsException();
        }
        if (value < -MOST_FACT_VALUE || value > MOST_FACT_VALUE) {
            throw new IllegalArgumentException();
        }
        int before = factValues[fact];
        factValues[fact] = value;
        now.draw(library, factValues, chosen, dropped);
        return before;
    }

    public int fact(int fact) throws IndexOutOfBoundsException {
        if (!isFact(fact)) {
            throw new IndexOutOfBoundsException();
        }
        return factValues[fact];
    }

    public int choose(int clause, int choice) throws IndexOutOfBoundsException, IllegalArgumentException {
        if (!isClause(clause)) {
            throw new IndexOutOfBoundsException();
        }
        if (choice < -1 || choice > 1) {
            throw new IllegalArgumentException();
        }
        int before = choiceOf(clause);
        chosen = withBit(chosen, clause, choice == 1);
        dropped = withBit(dropped, clause, choice == 0);
        now.draw(library, factValues, chosen, dropped);
        return before;
    }

    public int clause(int clause, int what) throws IndexOutOfBoundsException {
        if (!isClause(clause) || what < 0 || what >= CLAUSE_ANSWERS) {
            throw new IndexOutOfBoundsException();
        }
        return toldOfClause(clause, what);
    }

    public int clauseAt(int place) throws IndexOutOfBoundsException {
        if (place < 1 || place > now.draft.size) {
            throw new IndexOutOfBoundsException();
        }
        return now.draft.order[place - 1];
    }

    public int term(int term, int what) throws IndexOutOfBoundsException {
        if (term < 0 || term >= library.termCount || what < 0 || what >= TERM_ANSWERS) {
            throw new IndexOutOfBoundsException();
        }
        return now.toldOfTerm(term, what);
    }

    // ---- contract and conflicts

    public int byteAt(int index) throws IndexOutOfBoundsException {
        if (index < 0 || index >= now.bytes()) {
            throw new IndexOutOfBoundsException();
        }
        return now.draft.page.signAt(index);
    }

    public int conflict(int index, int what) throws IndexOutOfBoundsException {
        if (index < 0 || index >= now.found.size || what < 0 || what >= CONFLICT_ANSWERS) {
            throw new IndexOutOfBoundsException();
        }
        return now.found.told(index, what);
    }

    public int conflicts(int kind) throws IndexOutOfBoundsException {
        if (kind < 1 || kind > CONFLICT_KINDS) {
            throw new IndexOutOfBoundsException();
        }
        return now.found.ofKind(kind);
    }

    public int fewest() {
        int in = now.draft.mask;
        int best = library.barringOrBarred(in);
        int most = best;
        for (int gone = 0; gone <= most; gone++) {
            boolean fewer = (gone & ~most) == 0 && Integer.bitCount(gone) < Integer.bitCount(best);
            if (fewer && library.barringOrBarred(in & ~gone) == 0) {
                best = gone;
            }
        }
        return best;
    }

    // ---- what would be

    public int would(int clause, int choice, int what) throws IndexOutOfBoundsException, IllegalArgumentException {
        if (!isClause(clause) || what < 0 || what >= WOULD_ANSWERS) {
            throw new IndexOutOfBoundsException();
        }
        if (choice < -1 || choice > 1) {
            throw new IllegalArgumentException();
        }
        trial.draw(library, factValues, withBit(chosen, clause, choice == 1), withBit(dropped, clause, choice == 0));
        switch (what) {
            case 0:
                return trial.draft.size;
            case 1:
                return trial.found.size;
            case 2:
                return library.worthOf(trial.draft.mask);
            default:
                return trial.bytes();
        }
    }

    public int advise() {
        int free = library.optionals & ~chosen & ~dropped;
        int best = -1;
        int bestWorth = 0;
        for (int picked = 0; picked <= free; picked++) {
            if ((picked & ~free) == 0) {
                int in = library.closure(now.wanted | picked, dropped);
                int worth = library.worthOf(in);
                if (library.isPeaceful(in) && (best < 0 || worth > bestWorth)) {
                    best = picked;
                    bestWorth = worth;
                }
            }
        }
        return best;
    }

    public int calmest(int fact, int low, int high) throws IndexOutOfBoundsException, IllegalArgumentException {
        if (!isFact(fact)) {
            throw new IndexOutOfBoundsException();
        }
        if (low < -MOST_TRIED_VALUE || low > MOST_TRIED_VALUE) {
            throw new IllegalArgumentException();
        }
        if (high < low || high > MOST_TRIED_VALUE || high - low > MOST_TRIED_SPAN) {
            throw new IllegalArgumentException();
        }
        int before = factValues[fact];
        int best = low;
        int bestConflicts = MOST_CONFLICTS + 1;
        for (int value = low; value <= high; value++) {
            factValues[fact] = value;
            trial.draw(library, factValues, chosen, dropped);
            if (trial.found.size < bestConflicts) {
                best = value;
                bestConflicts = trial.found.size;
            }
        }
        factValues[fact] = before;
        return best;
    }

    // ---- drafts

    public int keep() {
        kept.copyFrom(now.draft);
        return kept.size;
    }

    public int changes(int what) throws IndexOutOfBoundsException {
        if (what < 0 || what >= CHANGE_ANSWERS) {
            throw new IndexOutOfBoundsException();
        }
        return changed(what);
    }

    public double friction() {
        int clauses = now.draft.size;
        return clauses == 0 ? 0.0 : (double) now.found.size / clauses;
    }

    public long digest() {
        long d = 641;
        for (int what = 0; what < COUNTS; what++) {
            d = d * 31 + counted(what);
        }
        for (int i = 0; i < library.factCount; i++) {
            d = d * 31 + factValues[i];
        }
        for (int i = 0; i < library.clauseCount; i++) {
            for (int what = 0; what < CLAUSE_ANSWERS; what++) {
                d = d * 31 + toldOfClause(i, what);
            }
        }
        for (int i = 0; i < library.termCount; i++) {
            for (int what = 0; what < TERM_ANSWERS; what++) {
                d = d * 31 + now.toldOfTerm(i, what);
            }
        }
        for (int i = 0; i < now.found.size; i++) {
            for (int what = 0; what < CONFLICT_ANSWERS; what++) {
                d = d * 31 + now.found.told(i, what);
            }
        }
        int bytes = now.bytes();
        for (int i = 0; i < bytes; i++) {
            d = d * 31 + now.draft.page.signAt(i);
        }
        for (int what = 0; what < CHANGE_ANSWERS; what++) {
            d = d * 31 + changed(what);
        }
        return d;
    }

    // ---- behind the face

    private void append(int number) {
        for (int shift = 24; shift >= 0; shift -= 8) {
            if (tapeLength < MOST_TAPE) {
                tape[tapeLength] = (byte) (number >> shift);
                tapeLength++;
            }
        }
    }

    private void takeUpSpare() {
        Library former = library;
        library = spare;
        spare = former;
        for (int i = 0; i < MOST_FACTS; i++) {
            factValues[i] = library.factNumbers[i];
        }
        chosen = 0;
        dropped = 0;
        kept.clear();
    }

    private boolean isFact(int fact) {
        return fact >= 0 && fact < library.factCount;
    }

    private boolean isClause(int clause) {
        return clause >= 0 && clause < library.clauseCount;
    }

    private int choiceOf(int clause) {
        if (hasBit(chosen, clause)) {
            return 1;
        }
        return hasBit(dropped, clause) ? 0 : -1;
    }

    private int counted(int what) {
        switch (what) {
            case 0:
                return library.factCount;
            case 1:
                return library.clauseCount;
            case 2:
                return library.termCount;
            case 3:
                return Integer.bitCount(library.optionals);
            case 4:
                return tapeLength;
            case 5:
                return now.draft.size;
            case 6:
                return now.found.size;
            case 7:
                return now.bytes();
            case 8:
                return library.worthOf(now.draft.mask);
            default:
                return kept.size;
        }
    }

    private int toldOfClause(int number, int what) {
        Clause asked = library.clauses[number];
        switch (what) {
            case 0:
                return choiceOf(number);
            case 1:
                return hasBit(now.holding, number) ? 1 : 0;
            case 2:
                return hasBit(now.draft.mask, number) ? 1 : 0;
            case 3:
                return now.draft.places[number];
            case 4:
                return asked.optional ? 1 : 0;
            case 5:
                return asked.needs;
            case 6:
                return asked.bars;
            case 7:
                return asked.after;
            default:
                return itemBytes(asked);
        }
    }

    private int itemBytes(Clause measured) {
        gaugePage.clear();
        gauge.open(library, factValues, now.draft.places, gaugePage);
        gauge.follow(measured.itemsFrom, measured.itemsTo);
        return gaugePage.length;
    }

    private int changed(int what) {
        int both = now.draft.mask & kept.mask;
        switch (what) {
            case 0:
                return Integer.bitCount(now.draft.mask & ~kept.mask);
            case 1:
                return Integer.bitCount(kept.mask & ~now.draft.mask);
            case 2:
                return rewritten(both);
            default:
                return Integer.bitCount(both) - longestRun(both);
        }
    }

    private int rewritten(int both) {
        int differing = 0;
        for (int i = 0; i < MOST_CLAUSES; i++) {
            if (hasBit(both, i) && !now.draft.hasSameItems(kept, i)) {
                differing++;
            }
        }
        return differing;
    }

    /** The most clauses of both contracts that can stay while the others are moved. */
    private int longestRun(int both) {
        int longest = 0;
        for (int i = 0; i < now.draft.size; i++) {
            int last = now.draft.order[i];
            runs[i] = 0;
            if (hasBit(both, last)) {
                for (int j = 0; j < i; j++) {
                    boolean follows = kept.places[now.draft.order[j]] < kept.places[last];
                    runs[i] = follows ? Math.max(runs[i], runs[j]) : runs[i];
                }
                runs[i]++;
                longest = Math.max(longest, runs[i]);
            }
        }
        return longest;
    }

    private static boolean hasBit(int mask, int number) {
        return (mask >> number & 1) != 0;
    }

    private static int withBit(int mask, int number, boolean set) {
        int bit = 1 << number;
        return set ? mask | bit : mask & ~bit;
    }

    /** The kinds of tokens; each step of the code is told by the kind of the token that it comes from. */
    private enum Kind {
        FACT("fact"), CLAUSE("clause"), WHEN("when"), OPTIONAL("optional"),
        NEEDS("needs"), BARS("bars"), AFTER("after"), REF("ref"), DEF("def"), USE("use"), SHOW("show"),
        IF("if"), ELSE("else"), POINTS("points"), POINT("point"),
        AND("and"), OR("or"), NOT("not"), MIN("min"), MAX("max"),
        OPEN_BLOCK("{"), CLOSE_BLOCK("}"), OPEN_SUM("("), CLOSE_SUM(")"), OPEN_TEST("["), CLOSE_TEST("]"),
        SEMICOLON(";"), COMMA(","), PLUS("+"), MINUS("-"), TIMES("*"), OVER("/"),
        LESS("<"), MORE(">"), EQUAL("="), AT_MOST("<="), AT_LEAST(">="),
        NAME(""), NUMBER(""), STRING(""), END(""), WRONG(""),
        /** A - in front of a value: no kind of a token, but of a step of the code. */
        TURN("");

        final String text;

        Kind(String text) {
            this.text = text;
        }
    }

    /** The row of tokens of a text, closed by an END, or by the first WRONG one. */
    private static final class Tokens {
        private static final int MOST_WORD = 10;
        private static final int MOST_DIGITS = 5;
        private static final int MOST_STRING = 40;
        private static final int QUOTE = 39;

        final byte[] text = new byte[MOST_TAPE];
        int textLength = 0;
        final Kind[] kinds = new Kind[MOST_TOKENS + 1];
        final int[] starts = new int[MOST_TOKENS + 1];
        final int[] lengths = new int[MOST_TOKENS + 1];
        /** What a number counts, and which fact, clause or term a name names. */
        final int[] meanings = new int[MOST_TOKENS + 1];
        int size = 0;

        void read(byte[] tape, int length) {
            textLength = Math.max(0, Math.min(length, Math.min(tape.length, MOST_TAPE)));
            System.arraycopy(tape, 0, text, 0, textLength);
            size = 0;
            int at = 0;
            boolean closed = false;
            for (int i = 0; i <= MOST_TOKENS && !closed; i++) {
                at = pastBlanks(at);
                int tokenLength = lengthAt(at);
                Kind kind = i == MOST_TOKENS && at < textLength ? Kind.WRONG : kindOf(at, tokenLength);
                kinds[i] = kind;
                starts[i] = at;
                lengths[i] = tokenLength;
                meanings[i] = kind == Kind.NUMBER ? valueOf(at, tokenLength) : 0;
                size = i + 1;
                closed = kind == Kind.END || kind == Kind.WRONG;
                at += tokenLength;
            }
        }

        Kind kindAt(int token) {
            if (token < 0 || token >= size || kinds[token] == null) {
                return Kind.WRONG;
            }
            return kinds[token];
        }

        int startAt(int token) {
            return token < 0 || token >= size ? 0 : starts[token];
        }

        int lengthOf(int token) {
            return token < 0 || token >= size ? 0 : lengths[token];
        }

        int meaningAt(int token) {
            return token < 0 || token >= size ? 0 : meanings[token];
        }

        void setMeaning(int token, int meaning) {
            if (token >= 0 && token < size) {
                meanings[token] = meaning;
            }
        }

        boolean sameWord(int one, int other) {
            int length = lengthOf(one);
            if (length != lengthOf(other)) {
                return false;
            }
            for (int i = 0; i < length; i++) {
                if (signAt(startAt(one) + i) != signAt(startAt(other) + i)) {
                    return false;
                }
            }
            return true;
        }

        int signAt(int at) {
            return at < 0 || at >= textLength ? -1 : text[at] & 255;
        }

        private int pastBlanks(int from) {
            int at = from;
            for (int i = 0; i < MOST_TAPE && (signAt(at) == ' ' || signAt(at) == '\n'); i++) {
                at++;
            }
            return at;
        }

        private int lengthAt(int at) {
            int first = signAt(at);
            if (isLetter(first)) {
                return wordLength(at);
            }
            if (isDigit(first)) {
                return numberLength(at);
            }
            if (first == QUOTE) {
                return stringLength(at);
            }
            boolean two = (first == '<' || first == '>') && signAt(at + 1) == '=';
            return two ? 2 : 1;
        }

        private int wordLength(int at) {
            int length = 0;
            for (int i = 0; i < MOST_TAPE && (isLetter(signAt(at + i)) || isDigit(signAt(at + i))); i++) {
                length++;
            }
            return length;
        }

        private int numberLength(int at) {
            int length = 0;
            for (int i = 0; i < MOST_TAPE && isDigit(signAt(at + i)); i++) {
                length++;
            }
            return length;
        }

        /** With both signs ' of it; 0 if there is no right string. */
        private int stringLength(int at) {
            for (int i = 1; i <= MOST_STRING + 1; i++) {
                int sign = signAt(at + i);
                if (sign == QUOTE) {
                    return i == 1 ? 0 : i + 1;
                }
                if (sign < 32 || sign > 126) {
                    return 0;
                }
            }
            return 0;
        }

        private Kind kindOf(int at, int length) {
            int first = signAt(at);
            if (first < 0) {
                return Kind.END;
            }
            if (isLetter(first)) {
                return length > MOST_WORD ? Kind.WRONG : kindWritten(at, length, Kind.NAME);
            }
            if (isDigit(first)) {
                return length > MOST_DIGITS ? Kind.WRONG : Kind.NUMBER;
            }
            if (first == QUOTE) {
                return length == 0 ? Kind.WRONG : Kind.STRING;
            }
            return kindWritten(at, length, Kind.WRONG);
        }

        private Kind kindWritten(int at, int length, Kind otherwise) {
            for (Kind kind : KINDS) {
                if (kind.text.length() == length && isWritten(kind.text, at)) {
                    return kind;
                }
            }
            return otherwise;
        }

        private boolean isWritten(String word, int at) {
            for (int i = 0; i < word.length(); i++) {
                if (word.charAt(i) != signAt(at + i)) {
                    return false;
                }
            }
            return true;
        }

        private int valueOf(int at, int length) {
            int value = 0;
            for (int i = 0; i < length && i < MOST_DIGITS; i++) {
                value = value * 10 + signAt(at + i) - '0';
            }
            return value;
        }

        private static boolean isLetter(int sign) {
            return sign >= 'a' && sign <= 'z';
        }

        private static boolean isDigit(int sign) {
            return sign >= '0' && sign <= '9';
        }
    }

    /**
     * What the tests and blocks of a library do, step by step: values are put on a stack, and taken from it.
     * No token makes more than one step.
     */
    private static final class Code {
        private final Kind[] kinds = new Kind[MOST_TOKENS];
        private final int[] operands = new int[MOST_TOKENS];
        int size = 0;

        void clear() {
            size = 0;
        }

        int add(Kind kind, int operand) {
            int at = size;
            if (at < MOST_TOKENS) {
                kinds[at] = kind;
                operands[at] = operand;
                size++;
            }
            return at;
        }

        /** Lets a step that skips others go on behind the last step. */
        void aimAtEnd(int step) {
            if (step >= 0 && step < size) {
                operands[step] = size;
            }
        }

        Kind kindAt(int step) {
            if (step < 0 || step >= size || kinds[step] == null) {
                return Kind.WRONG;
            }
            return kinds[step];
        }

        int operandAt(int step) {
            return step < 0 || step >= size ? 0 : operands[step];
        }
    }

    /** A clause of the library. Its head are the tokens behind its name and ahead of its block. */
    private static final class Clause {
        boolean optional = false;
        int worth = 0;
        int needs = 0;
        int bars = 0;
        int after = 0;
        int headFrom = 0;
        int headTo = 0;
        int testFrom = 0;
        int testTo = 0;
        int itemsFrom = 0;
        int itemsTo = 0;

        void clear() {
            optional = false;
            worth = 0;
            needs = 0;
            bars = 0;
            after = 0;
        }
    }

    /** Looks whether tokens are a library, and makes its code. Where it fails, place is the wrong token. */
    private static final class Grammar {
        final Tokens tokens = new Tokens();
        final Code code = new Code();
        final Clause[] clauses = new Clause[MOST_CLAUSES];
        /** Stands for all clauses beyond the last one that is allowed. */
        private final Clause surplus = new Clause();
        private int clausesSeen = 0;
        int place = 0;

        Grammar() {
            for (int i = 0; i < MOST_CLAUSES; i++) {
                clauses[i] = new Clause();
            }
        }

        boolean accepts() {
            place = 0;
            clausesSeen = 0;
            code.clear();
            boolean right = true;
            for (int i = 0; i < MOST_TOKENS && right && !has(Kind.END); i++) {
                right = has(Kind.FACT) ? tellsFact() : tellsClause();
            }
            return right;
        }

        private Kind here() {
            return tokens.kindAt(place);
        }

        private boolean has(Kind kind) {
            return tokens.kindAt(place) == kind;
        }

        private boolean take(Kind kind) {
            if (tokens.kindAt(place) != kind) {
                return false;
            }
            place++;
            return true;
        }

        /** The same for a token behind which the depth is greater by 1. */
        private boolean enter(Kind kind, int depth) {
            if (depth >= MOST_DEPTH || tokens.kindAt(place) != kind) {
                return false;
            }
            place++;
            return true;
        }

        private boolean tellsFact() {
            return take(Kind.FACT) && take(Kind.NAME) && take(Kind.EQUAL) && take(Kind.NUMBER) && take(Kind.SEMICOLON);
        }

        private boolean tellsClause() {
            Clause told = clausesSeen < clauses.length ? clauses[clausesSeen] : surplus;
            clausesSeen++;
            told.clear();
            if (!take(Kind.CLAUSE) || !take(Kind.NAME)) {
                return false;
            }
            told.headFrom = place;
            if (!whenPart(told) || !optionalPart(told) || !linkPart()) {
                return false;
            }
            told.headTo = place;
            told.itemsFrom = code.size;
            boolean right = block(0);
            told.itemsTo = code.size;
            return right;
        }

        private boolean whenPart(Clause told) {
            told.testFrom = code.size;
            boolean right = !take(Kind.WHEN) || test(0);
            told.testTo = code.size;
            return right;
        }

        private boolean optionalPart(Clause told) {
            if (!take(Kind.OPTIONAL)) {
                return true;
            }
            int first = place;
            if (!take(Kind.NUMBER) || !take(Kind.NUMBER)) {
                return false;
            }
            told.optional = true;
            told.worth = tokens.meaningAt(first) - tokens.meaningAt(first + 1);
            return true;
        }

        private boolean linkPart() {
            boolean right = true;
            for (int i = 0; i < MOST_TOKENS && right && (has(Kind.NEEDS) || has(Kind.BARS) || has(Kind.AFTER)); i++) {
                place++;
                right = take(Kind.NAME);
            }
            return right;
        }

        private boolean block(int depth) {
            boolean right = enter(Kind.OPEN_BLOCK, depth);
            for (int i = 0; i < MOST_TOKENS && right && !has(Kind.CLOSE_BLOCK); i++) {
                right = item(depth + 1);
            }
            return right && take(Kind.CLOSE_BLOCK);
        }

        private boolean item(int depth) {
            switch (here()) {
                case STRING:
                    code.add(Kind.STRING, place);
                    return take(Kind.STRING);
                case REF:
                case DEF:
                case USE:
                    return nameItem();
                case SHOW:
                    return showItem(depth);
                case IF:
                    return ifItem(depth);
                case POINTS:
                    return pointsItem(depth);
                default:
                    return false;
            }
        }

        private boolean nameItem() {
            Kind kind = here();
            place++;
            code.add(kind, place);
            return take(Kind.NAME);
        }

        private boolean showItem(int depth) {
            if (!take(Kind.SHOW) || !sum(depth)) {
                return false;
            }
            code.add(Kind.SHOW, 0);
            return take(Kind.SEMICOLON);
        }

        private boolean ifItem(int depth) {
            if (!take(Kind.IF) || !test(depth)) {
                return false;
            }
            int unless = code.add(Kind.IF, 0);
            if (!block(depth)) {
                return false;
            }
            if (!take(Kind.ELSE)) {
                code.aimAtEnd(unless);
                return true;
            }
            int over = code.add(Kind.ELSE, 0);
            code.aimAtEnd(unless);
            boolean right = block(depth);
            code.aimAtEnd(over);
            return right;
        }

        private boolean pointsItem(int depth) {
            boolean right = take(Kind.POINTS) && enter(Kind.OPEN_BLOCK, depth);
            for (int number = 1; number <= MOST_TOKENS && right && take(Kind.POINT); number++) {
                code.add(Kind.POINT, number);
                right = block(depth + 1);
            }
            return right && take(Kind.CLOSE_BLOCK);
        }

        private boolean test(int depth) {
            boolean right = both(depth);
            for (int i = 0; i < MOST_TOKENS && right && take(Kind.OR); i++) {
                right = both(depth);
                code.add(Kind.OR, 0);
            }
            return right;
        }

        private boolean both(int depth) {
            boolean right = single(depth);
            for (int i = 0; i < MOST_TOKENS && right && take(Kind.AND); i++) {
                right = single(depth);
                code.add(Kind.AND, 0);
            }
            return right;
        }

        private boolean single(int depth) {
            if (has(Kind.NOT)) {
                boolean right = enter(Kind.NOT, depth) && single(depth + 1);
                code.add(Kind.NOT, 0);
                return right;
            }
            if (has(Kind.OPEN_TEST)) {
                return enter(Kind.OPEN_TEST, depth) && test(depth + 1) && take(Kind.CLOSE_TEST);
            }
            if (!sum(depth) || !compares(here())) {
                return false;
            }
            Kind kind = here();
            place++;
            boolean right = sum(depth);
            code.add(kind, 0);
            return right;
        }

        private static boolean compares(Kind kind) {
            return kind == Kind.LESS || kind == Kind.MORE || kind == Kind.EQUAL
                    || kind == Kind.AT_MOST || kind == Kind.AT_LEAST;
        }

        private boolean sum(int depth) {
            boolean right = product(depth);
            for (int i = 0; i < MOST_TOKENS && right && (has(Kind.PLUS) || has(Kind.MINUS)); i++) {
                Kind kind = here();
                place++;
                right = product(depth);
                code.add(kind, 0);
            }
            return right;
        }

        private boolean product(int depth) {
            boolean right = value(depth);
            for (int i = 0; i < MOST_TOKENS && right && (has(Kind.TIMES) || has(Kind.OVER)); i++) {
                Kind kind = here();
                place++;
                right = value(depth);
                code.add(kind, 0);
            }
            return right;
        }

        private boolean value(int depth) {
            Kind kind = here();
            switch (kind) {
                case NUMBER:
                case NAME:
                    code.add(kind, place);
                    return take(kind);
                case MINUS:
                    boolean right = enter(kind, depth) && value(depth + 1);
                    code.add(Kind.TURN, 0);
                    return right;
                case OPEN_SUM:
                    return enter(kind, depth) && sum(depth + 1) && take(Kind.CLOSE_SUM);
                case MIN:
                case MAX:
                    return take(kind) && ofTwo(kind, depth);
                default:
                    return false;
            }
        }

        private boolean ofTwo(Kind kind, int depth) {
            boolean right = enter(Kind.OPEN_SUM, depth) && sum(depth + 1) && take(Kind.COMMA) && sum(depth + 1);
            code.add(kind, 0);
            return right && take(Kind.CLOSE_SUM);
        }
    }

    /** A library that was read from a tape. Sets of clauses are sums of the powers 2^k of their numbers. */
    private static final class Library {
        final Grammar grammar = new Grammar();
        final Tokens tokens = grammar.tokens;
        final Code code = grammar.code;
        final Clause[] clauses = grammar.clauses;
        final int[] factNumbers = new int[MOST_FACTS];
        private final int[] factNames = new int[MOST_FACTS];
        private final int[] termNames = new int[MOST_TERMS];
        int factCount = 0;
        int clauseCount = 0;
        int termCount = 0;
        int optionals = 0;
        private int nameLookedAt = 0;

        void open(byte[] tape, int length) {
            factCount = 0;
            clauseCount = 0;
            termCount = 0;
            optionals = 0;
            nameLookedAt = 0;
            tokens.read(tape, length);
        }

        int placeOfError(int error) {
            if (error == 0) {
                return -1;
            }
            return tokens.startAt(error == 1 ? grammar.place : nameLookedAt);
        }

        /** All that are in, if these are wanted. */
        int closure(int wanted, int dropped) {
            int in = wanted;
            for (int round = 0; round < MOST_CLAUSES; round++) {
                for (int i = 0; i < clauseCount; i++) {
                    if (hasBit(in, i)) {
                        in |= clauses[i].needs & ~dropped;
                    }
                }
            }
            return in;
        }

        /** Those of them that bar another one of them, or are barred by one. */
        int barringOrBarred(int in) {
            int found = 0;
            for (int i = 0; i < clauseCount; i++) {
                int barred = hasBit(in, i) ? clauses[i].bars & in : 0;
                if (barred != 0) {
                    found |= barred | 1 << i;
                }
            }
            return found;
        }

        boolean isPeaceful(int in) {
            int needed = 0;
            for (int i = 0; i < clauseCount; i++) {
                needed |= hasBit(in, i) ? clauses[i].needs : 0;
            }
            return (needed & ~in) == 0 && barringOrBarred(in) == 0;
        }

        int worthOf(int in) {
            int worth = 0;
            for (int i = 0; i < clauseCount; i++) {
                worth += hasBit(in & optionals, i) ? clauses[i].worth : 0;
            }
            return worth;
        }

        /** Gives each name its meaning; returns 0, or the first error. */
        int lookAtNames() {
            int error = 0;
            for (int i = 1; i < tokens.size && error == 0; i++) {
                if (tokens.kindAt(i) == Kind.NAME) {
                    nameLookedAt = i;
                    error = lookAtName(i, tokens.kindAt(i - 1));
                }
            }
            return error;
        }

        private int lookAtName(int token, Kind ahead) {
            switch (ahead) {
                case FACT:
                    return addFact(token);
                case CLAUSE:
                    return addClause(token);
                case NEEDS:
                case BARS:
                case AFTER:
                case REF:
                    return meanClause(token, ahead);
                case DEF:
                case USE:
                    return meanTerm(token);
                default:
                    return meanFact(token);
            }
        }

        private int addFact(int token) {
            if (numberOf(token, factNames, factCount) >= 0) {
                return 2;
            }
            if (factCount >= MOST_FACTS) {
                return 6;
            }
            factNames[factCount] = token;
            factNumbers[factCount] = tokens.meaningAt(token + 2);
            factCount++;
            return 0;
        }

        private int addClause(int token) {
            if (clauseNamed(token) < clauseCount) {
                return 2;
            }
            if (clauseCount >= MOST_CLAUSES) {
                return 6;
            }
            if (clauses[clauseCount].optional) {
                if (Integer.bitCount(optionals) >= MOST_OPTIONAL) {
                    return 6;
                }
                optionals |= 1 << clauseCount;
            }
            clauseCount++;
            return 0;
        }

        private int meanClause(int token, Kind link) {
            int number = clauseNamed(token);
            if (number < 0) {
                return 3;
            }
            if (number == clauseCount - 1) {
                return 5;
            }
            tokens.setMeaning(token, number);
            if (clauseCount > 0) {
                addLink(clauses[clauseCount - 1], link, 1 << number);
            }
            return 0;
        }

        private static void addLink(Clause from, Kind link, int bit) {
            from.needs |= link == Kind.NEEDS ? bit : 0;
            from.bars |= link == Kind.BARS ? bit : 0;
            from.after |= link == Kind.AFTER ? bit : 0;
        }

        private int meanTerm(int token) {
            int number = numberOf(token, termNames, termCount);
            if (number < 0) {
                if (termCount >= MOST_TERMS) {
                    return 6;
                }
                number = termCount;
                termNames[number] = token;
                termCount++;
            }
            tokens.setMeaning(token, number);
            return 0;
        }

        private int meanFact(int token) {
            int number = numberOf(token, factNames, factCount);
            tokens.setMeaning(token, number);
            return number < 0 ? 4 : 0;
        }

        /** Which of the names (each told by a token that is it) the token is, -1 if it is none. */
        private int numberOf(int token, int[] names, int size) {
            for (int i = 0; i < size && i < names.length; i++) {
                if (tokens.sameWord(names[i], token)) {
                    return i;
                }
            }
            return -1;
        }

        /** The number of the first clause, ahead or behind, that has the name; -1 if there is none. */
        private int clauseNamed(int token) {
            int number = 0;
            for (int i = 0; i < tokens.size; i++) {
                if (tokens.kindAt(i) == Kind.CLAUSE) {
                    if (tokens.sameWord(i + 1, token)) {
                        return number;
                    }
                    number++;
                }
            }
            return -1;
        }
    }

    /** Bytes that are written one behind the other; those beyond its room are only counted. */
    private static final class Page {
        private final byte[] bytes;
        int length = 0;

        Page(int room) {
            bytes = new byte[room > 0 ? room : 0];
        }

        void clear() {
            length = 0;
        }

        void put(int sign) {
            if (length >= 0 && length < bytes.length) {
                bytes[length] = (byte) sign;
            }
            length++;
        }

        void putNumber(int number) {
            long left = number;
            if (left < 0) {
                put('-');
                left = -left;
            }
            boolean begun = false;
            for (long unit = 1000000000L; unit > 0; unit /= 10) {
                begun = begun || left >= unit || unit == 1;
                if (begun) {
                    put((int) ('0' + left / unit % 10));
                }
            }
        }

        int signAt(int index) {
            return index < 0 || index >= length || index >= bytes.length ? 0 : bytes[index];
        }

        void copyFrom(Page other) {
            length = other.length;
            int copied = Math.min(bytes.length, Math.min(other.bytes.length, other.length));
            System.arraycopy(other.bytes, 0, bytes, 0, copied);
        }
    }

    /** Follows the code of a library: reckons tests, and writes items of clauses. */
    private static final class Scribe {
        /** More than sums and tests need that are nested eight deep: at most 3 values a level. */
        private static final int STACK = 64;

        private Library library = null;
        private int[] factValues = null;
        private int[] places = null;
        private Page page = null;
        private final int[] stack = new int[STACK];
        private int height = 0;
        /** The steps of the refs, defs and uses that were written. */
        final int[] shown = new int[MOST_TOKENS];
        int shownCount = 0;

        void open(Library library, int[] factValues, int[] places, Page page) {
            this.library = library;
            this.factValues = factValues;
            this.places = places;
            this.page = page;
            shownCount = 0;
        }

        void follow(int from, int to) {
            if (library == null || factValues == null || places == null || page == null) {
                return;
            }
            height = 0;
            int step = from;
            // No step leads back, so no more of them are taken than there are.
            for (int i = 0; i < MOST_TOKENS && step < to; i++) {
                Kind kind = library.code.kindAt(step);
                int operand = library.code.operandAt(step);
                boolean skips = kind == Kind.ELSE || kind == Kind.IF && pop() == 0;
                if (!skips) {
                    act(kind, operand, step);
                }
                step = skips ? operand : step + 1;
            }
        }

        /** What the test that was followed came to. */
        boolean holds() {
            return pop() != 0;
        }

        private void act(Kind kind, int operand, int step) {
            switch (kind) {
                case IF:
                    break;
                case STRING:
                    // Without the signs ' at its ends.
                    writeWord(library.tokens.startAt(operand) + 1, library.tokens.lengthOf(operand) - 2);
                    break;
                case SHOW:
                    page.putNumber(pop());
                    break;
                case POINT:
                    page.put(' ');
                    page.put('(');
                    page.putNumber(operand);
                    page.put(')');
                    page.put(' ');
                    break;
                case REF:
                    note(step);
                    int place = placeOf(library.tokens.meaningAt(operand));
                    if (place > 0) {
                        page.putNumber(place);
                    } else {
                        page.put('?');
                    }
                    break;
                case DEF:
                    note(step);
                    page.put('"');
                    writeWord(library.tokens.startAt(operand), library.tokens.lengthOf(operand));
                    page.put('"');
                    break;
                case USE:
                    note(step);
                    page.put(library.tokens.signAt(library.tokens.startAt(operand)) - 'a' + 'A');
                    writeWord(library.tokens.startAt(operand) + 1, library.tokens.lengthOf(operand) - 1);
                    break;
                default:
                    reckon(kind, operand);
                    break;
            }
        }

        private void note(int step) {
            if (shownCount < MOST_TOKENS) {
                shown[shownCount] = step;
                shownCount++;
            }
        }

        private void writeWord(int start, int length) {
            for (int i = 0; i < length; i++) {
                page.put(library.tokens.signAt(start + i));
            }
        }

        private int placeOf(int clause) {
            return clause < 0 || clause >= places.length ? 0 : places[clause];
        }

        private void reckon(Kind kind, int operand) {
            if (kind == Kind.NUMBER) {
                push(library.tokens.meaningAt(operand));
            } else if (kind == Kind.NAME) {
                int fact = library.tokens.meaningAt(operand);
                push(fact < 0 || fact >= factValues.length ? 0 : factValues[fact]);
            } else if (kind == Kind.TURN) {
                push(-pop());
            } else if (kind == Kind.NOT) {
                push(pop() == 0 ? 1 : 0);
            } else {
                int right = pop();
                int left = pop();
                push(ofTwo(kind, left, right));
            }
        }

        private static int ofTwo(Kind kind, int left, int right) {
            switch (kind) {
                case PLUS:
                    return left + right;
                case MINUS:
                    return left - right;
                case TIMES:
                    return left * right;
                case OVER:
                    return right == 0 ? 0 : left / right;
                case MIN:
                    return Math.min(left, right);
                case MAX:
                    return Math.max(left, right);
                case LESS:
                    return left < right ? 1 : 0;
                case MORE:
                    return left > right ? 1 : 0;
                case EQUAL:
                    return left == right ? 1 : 0;
                case AT_MOST:
                    return left <= right ? 1 : 0;
                case AT_LEAST:
                    return left >= right ? 1 : 0;
                case AND:
                    return left & right;
                case OR:
                    return left | right;
                default:
                    return 0;
            }
        }

        private void push(int value) {
            if (height >= 0 && height < STACK) {
                stack[height] = value;
                height++;
            }
        }

        private int pop() {
            if (height <= 0 || height > STACK) {
                return 0;
            }
            height--;
            return stack[height];
        }
    }

    /** Which clauses are in, in which order, and their bytes. */
    private static final class Draft {
        int mask = 0;
        int size = 0;
        final int[] order = new int[MOST_CLAUSES];
        /** The number of each clause in the contract, 0 if it is not in. */
        final int[] places = new int[MOST_CLAUSES];
        /** Where the items of each clause begin and end on the page. */
        final int[] itemsFrom = new int[MOST_CLAUSES];
        final int[] itemsTo = new int[MOST_CLAUSES];
        final Page page;

        Draft(int room) {
            page = new Page(room);
        }

        void clear() {
            mask = 0;
            size = 0;
            for (int i = 0; i < MOST_CLAUSES; i++) {
                places[i] = 0;
                itemsFrom[i] = 0;
                itemsTo[i] = 0;
            }
            page.clear();
        }

        void copyFrom(Draft other) {
            mask = other.mask;
            size = other.size;
            for (int i = 0; i < MOST_CLAUSES; i++) {
                order[i] = other.order[i];
                places[i] = other.places[i];
                itemsFrom[i] = other.itemsFrom[i];
                itemsTo[i] = other.itemsTo[i];
            }
            page.copyFrom(other.page);
        }

        void arrange(Library library, int in) {
            clear();
            mask = in;
            int left = in;
            for (int i = 0; i < MOST_CLAUSES && left != 0; i++) {
                int placed = nextOf(library, left);
                order[i] = placed;
                size = i + 1;
                places[placed] = size;
                left = withBit(left, placed, false);
            }
        }

        private static int nextOf(Library library, int left) {
            int least = 0;
            for (int i = MOST_CLAUSES - 1; i >= 0; i--) {
                if (hasBit(left, i)) {
                    least = i;
                }
            }
            for (int i = least; i < MOST_CLAUSES; i++) {
                if (hasBit(left, i) && (library.clauses[i].after & left) == 0) {
                    return i;
                }
            }
            return least;
        }

        boolean hasSameItems(Draft other, int clause) {
            int from = itemsFrom[clause];
            int otherFrom = other.itemsFrom[clause];
            int length = itemsTo[clause] - from;
            if (other.itemsTo[clause] - otherFrom != length) {
                return false;
            }
            for (int i = 0; i < length; i++) {
                if (page.signAt(from + i) != other.page.signAt(otherFrom + i)) {
                    return false;
                }
            }
            return true;
        }
    }

    /** The conflicts that are told. */
    private static final class Conflicts {
        private final int[] kinds = new int[MOST_CONFLICTS];
        private final int[] clauses = new int[MOST_CONFLICTS];
        private final int[] others = new int[MOST_CONFLICTS];
        int size = 0;

        void clear() {
            size = 0;
        }

        void add(int kind, int clause, int other) {
            if (size < MOST_CONFLICTS) {
                kinds[size] = kind;
                clauses[size] = clause;
                others[size] = other;
                size++;
            }
        }

        int told(int index, int what) {
            if (index < 0 || index >= size) {
                return 0;
            }
            if (what == 0) {
                return kinds[index];
            }
            return what == 1 ? clauses[index] : others[index];
        }

        int ofKind(int kind) {
            int found = 0;
            for (int i = 0; i < size; i++) {
                found += kinds[i] == kind ? 1 : 0;
            }
            return found;
        }
    }

    /** A contract, drawn up from a library, facts and choices. */
    private static final class Contract {
        final Draft draft;
        final Conflicts found = new Conflicts();
        private final Scribe scribe = new Scribe();
        /** The clauses whose tests hold, or that have none. */
        int holding = 0;
        int wanted = 0;
        /** How many refs, defs and uses are shown up to the end of the clause at each place. */
        private final int[] shownTo = new int[MOST_CLAUSES];
        private final int[] defs = new int[MOST_TERMS];
        private final int[] uses = new int[MOST_TERMS];
        private final int[] firstDefs = new int[MOST_TERMS];
        private final int[] defsAhead = new int[MOST_TERMS];

        Contract(int room) {
            draft = new Draft(room);
        }

        int bytes() {
            return Math.min(draft.page.length, MOST_BYTES);
        }

        int toldOfTerm(int term, int what) {
            if (term < 0 || term >= MOST_TERMS) {
                return 0;
            }
            if (what == 0) {
                return defs[term];
            }
            return what == 1 ? uses[term] : firstDefs[term];
        }

        void draw(Library library, int[] factValues, int chosen, int dropped) {
            gather(library, factValues, chosen, dropped);
            write(library);
            tally(library);
            judge(library);
        }

        private void gather(Library library, int[] factValues, int chosen, int dropped) {
            scribe.open(library, factValues, draft.places, draft.page);
            holding = 0;
            for (int i = 0; i < library.clauseCount; i++) {
                Clause asked = library.clauses[i];
                scribe.follow(asked.testFrom, asked.testTo);
                holding = withBit(holding, i, asked.testFrom == asked.testTo || scribe.holds());
            }
            wanted = chosen | holding & ~dropped & ~library.optionals;
            draft.arrange(library, library.closure(wanted, dropped));
        }

        private void write(Library library) {
            Page page = draft.page;
            for (int i = 0; i < draft.size; i++) {
                int clause = draft.order[i];
                page.putNumber(i + 1);
                page.put('.');
                page.put(' ');
                draft.itemsFrom[clause] = page.length;
                scribe.follow(library.clauses[clause].itemsFrom, library.clauses[clause].itemsTo);
                draft.itemsTo[clause] = page.length;
                page.put('\n');
                shownTo[i] = scribe.shownCount;
            }
        }

        private void tally(Library library) {
            for (int i = 0; i < MOST_TERMS; i++) {
                defs[i] = 0;
                uses[i] = 0;
                firstDefs[i] = -1;
                defsAhead[i] = 0;
            }
            int shown = 0;
            for (int i = 0; i < draft.size; i++) {
                for (; shown < shownTo[i]; shown++) {
                    tallyItem(library, scribe.shown[shown], draft.order[i]);
                }
            }
        }

        private void tallyItem(Library library, int step, int clause) {
            Kind kind = library.code.kindAt(step);
            int term = meaningOf(library, step);
            if (kind == Kind.REF || term >= MOST_TERMS) {
                return;
            }
            if (kind == Kind.USE) {
                uses[term]++;
                return;
            }
            defs[term]++;
            if (firstDefs[term] < 0) {
                firstDefs[term] = clause;
            }
        }

        private static int meaningOf(Library library, int step) {
            return Math.max(0, library.tokens.meaningAt(library.code.operandAt(step)));
        }

        private void judge(Library library) {
            found.clear();
            int shown = 0;
            for (int i = 0; i < draft.size; i++) {
                int clause = draft.order[i];
                judgeLinks(library, clause, 1, Kind.BARS);
                judgeLinks(library, clause, 2, Kind.NEEDS);
                judgeLinks(library, clause, 3, Kind.AFTER);
                for (; shown < shownTo[i]; shown++) {
                    judgeItem(library, scribe.shown[shown], clause);
                }
            }
            for (int term = 0; term < library.termCount; term++) {
                if (defs[term] > 0 && uses[term] == 0) {
                    found.add(8, firstDefs[term], term);
                }
            }
        }

        private void judgeLinks(Library library, int clause, int conflictKind, Kind link) {
            int headTo = library.clauses[clause].headTo;
            for (int i = library.clauses[clause].headFrom; i < headTo; i++) {
                if (library.tokens.kindAt(i) == link) {
                    int other = library.tokens.meaningAt(i + 1);
                    if (isConflict(conflictKind, placeOf(clause), placeOf(other))) {
                        found.add(conflictKind, clause, other);
                    }
                }
            }
        }

        private static boolean isConflict(int conflictKind, int place, int otherPlace) {
            if (conflictKind == 1) {
                return otherPlace > 0;
            }
            return conflictKind == 2 ? otherPlace == 0 : otherPlace > place;
        }

        private int placeOf(int clause) {
            return clause < 0 || clause >= MOST_CLAUSES ? 0 : draft.places[clause];
        }

        private void judgeItem(Library library, int step, int clause) {
            Kind kind = library.code.kindAt(step);
            int meaning = meaningOf(library, step);
            if (kind == Kind.REF) {
                if (placeOf(meaning) == 0) {
                    found.add(4, clause, meaning);
                }
            } else if (meaning < MOST_TERMS) {
                judgeTerm(kind, meaning, clause);
            }
        }

        private void judgeTerm(Kind kind, int term, int clause) {
            if (kind == Kind.DEF) {
                if (defsAhead[term] > 0) {
                    found.add(5, clause, term);
                }
                defsAhead[term]++;
            } else if (defs[term] == 0) {
                found.add(6, clause, term);
            } else if (defsAhead[term] == 0) {
                found.add(7, clause, term);
            }
        }
    }
}
