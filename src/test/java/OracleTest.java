import java.util.ArrayList;
import java.util.List;
import java.util.Random;

/** Random runs on a desk and on the oracle, call by call; the seeds are fixed, so each run is the same. */
public final class OracleTest {
    private static final int RUNS = 1500;
    private static final int ERRONEOUS = 12000;
    /** A library is put on the tape by at most so many calls. */
    private static final int CALLS_TO_PUT = 160;

    private final Random random;
    private final Desks desks;
    private final Desk desk = new Desk();
    private final Oracle oracle = new Oracle();
    private final StringBuilder log = new StringBuilder();
    private boolean right = true;

    private OracleTest(int seed, Desks desks) {
        random = new Random(seed);
        this.desks = desks;
    }

    public static void main(String[] args) {
        Desks desks = new Desks("OracleTest");
        int runs = args.length > 1 ? Integer.parseInt(args[1]) : RUNS;
        int from = args.length > 2 ? Integer.parseInt(args[2]) : 0;
        int[] errors = new int[7];
        for (int i = 0; i < runs; i++) {
            new OracleTest(from + i, desks).run();
        }
        for (int i = 0; i < ERRONEOUS * runs / RUNS; i++) {
            new OracleTest(from + 1000000 + i, desks).teachOne(errors);
        }
        for (int error = 0; error <= 6; error++) {
            desks.due("some texts had error " + error, errors[error] > 0, true);
        }
        System.out.println("texts by error: " + java.util.Arrays.toString(errors));
        desks.close();
    }

    private interface Asked {
        Object answer();
    }

    private static String told(Asked asked) {
        try {
            return String.valueOf(asked.answer());
        } catch (IllegalStateException | IllegalArgumentException | IndexOutOfBoundsException e) {
            return "throws " + e.getClass().getSimpleName();
        }
    }

    private void same(String call, Asked of, Asked due) {
        if (!right) {
            return;
        }
        String got = told(of);
        String want = told(due);
        log.append(call).append(" = ").append(want).append('\n');
        right = got.equals(want);
        if (!right) {
            desks.due(log + call, got, want);
        } else {
            desks.due(call, got, want);
        }
    }

    private void put(String text) {
        log.append("text <").append(text).append(">\n");
        int length = Math.min(text.length(), 3000 - oracle.tape.length());
        byte[] padded = new byte[(length + 19) / 20 * 20];
        for (int i = 0; i < length; i++) {
            padded[i] = (byte) text.charAt(i);
        }
        for (int i = 0; i < padded.length; i += 20) {
            int[] w = new int[5];
            for (int j = 0; j < 5; j++) {
                w[j] = Desks.word(padded, i + 4 * j);
            }
            same("feed", () -> desk.feed(w[0], w[1], w[2], w[3], w[4]), () -> oracle.feed(w));
        }
        same("trim(" + length + ")", () -> desk.trim(length), () -> oracle.trim(length));
    }

    private void teachOne(int[] errors) {
        put(mutated(new Texts(random).library()));
        String error = told(() -> oracle.teach());
        same("teach()", () -> desk.teach(), () -> error);
        errors[error.charAt(0) - '0']++;
        same("errorAt()", desk::errorAt, () -> oracle.errorAt);
        same("digest()", desk::digest, oracle::digest);
    }

    /** Few signs or words are changed, so that most errors stand deep in the text. */
    private String mutated(String text) {
        StringBuilder changed = new StringBuilder(text);
        int times = random.nextInt(3);
        for (int i = 0; i < times && changed.length() > 0; i++) {
            int at = random.nextInt(changed.length());
            switch (random.nextInt(4)) {
                case 0 -> changed.deleteCharAt(at);
                case 1 -> changed.setCharAt(at, (char) (random.nextInt(8) == 0 ? random.nextInt(256) : 32 + random.nextInt(95)));
                case 2 -> changed.insert(at, " " + Texts.WORDS[random.nextInt(Texts.WORDS.length)] + " ");
                default -> changed.delete(at, Math.min(changed.length(), at + random.nextInt(8)));
            }
        }
        return changed.toString();
    }

    private void run() {
        int calls = 20 + random.nextInt(60);
        for (int i = 0; i < calls && right && desk.callsLeft() > CALLS_TO_PUT; i++) {
            if (i == 0 || random.nextInt(40) == 0) {
                String library = new Texts(random).library();
                put(random.nextInt(6) == 0 ? mutated(library) : library);
                same("teach()", desk::teach, oracle::teach);
                same("errorAt()", desk::errorAt, () -> oracle.errorAt);
            } else {
                call();
            }
        }
        same("digest()", desk::digest, oracle::digest);
    }

    private int upTo(int most) {
        return random.nextInt(15) == 0 ? random.nextInt(5) == 0 ? random.nextInt() : most + 1 - random.nextInt(2) * (most + 2)
                : random.nextInt(Math.max(1, most + 1));
    }

    private int fact() {
        return upTo(oracle.values.length - 1);
    }

    private int clause() {
        return upTo(oracle.choices.length - 1);
    }

    private void call() {
        int f = fact();
        int c = clause();
        int choice = upTo(2) - 1;
        switch (random.nextInt(21)) {
            case 0, 1 -> {
                int value = random.nextInt(4) == 0 ? upTo(99999) : random.nextInt(60) - 15;
                same("setFact(" + f + "," + value + ")", () -> desk.setFact(f, value), () -> oracle.setFact(f, value));
            }
            case 2, 3, 4 -> same("choose(" + c + "," + choice + ")", () -> desk.choose(c, choice), () -> oracle.choose(c, choice));
            case 5 -> same("fact(" + f + ")", () -> desk.fact(f), () -> oracle.fact(f));
            case 6 -> {
                int what = upTo(9);
                same("count(" + what + ")", () -> desk.count(what), () -> oracle.count(what));
            }
            case 7 -> {
                int what = upTo(8);
                same("clause(" + c + "," + what + ")", () -> desk.clause(c, what), () -> oracle.clause(c, what));
            }
            case 8 -> {
                int place = upTo(oracle.order().size());
                same("clauseAt(" + place + ")", () -> desk.clauseAt(place), () -> oracle.clauseAt(place));
            }
            case 9 -> {
                int term = upTo(oracle.lib.terms.size() - 1);
                int what = upTo(2);
                same("term(" + term + "," + what + ")", () -> desk.term(term, what), () -> oracle.term(term, what));
            }
            case 10 -> {
                int index = upTo(oracle.contract().length() - 1);
                same("byteAt(" + index + ")", () -> desk.byteAt(index), () -> oracle.byteAt(index));
            }
            case 11 -> {
                int index = upTo(oracle.told().size() - 1);
                int what = upTo(2);
                same("conflict(" + index + "," + what + ")", () -> desk.conflict(index, what), () -> oracle.conflict(index, what));
            }
            case 12 -> {
                int kind = upTo(8);
                same("conflicts(" + kind + ")", () -> desk.conflicts(kind), () -> oracle.conflicts(kind));
            }
            case 13 -> same("fewest()", desk::fewest, oracle::fewest);
            case 14 -> {
                int what = upTo(3);
                same("would(" + c + "," + choice + "," + what + ")", () -> desk.would(c, choice, what), () -> oracle.would(c, choice, what));
            }
            case 15 -> same("advise()", desk::advise, oracle::advise);
            case 16 -> {
                int low = random.nextInt(8) == 0 ? upTo(1002) : random.nextInt(40) - 20;
                int high = low + (random.nextInt(8) == 0 ? upTo(40) : random.nextInt(10));
                same("calmest(" + f + "," + low + "," + high + ")", () -> desk.calmest(f, low, high), () -> oracle.calmest(f, low, high));
            }
            case 17 -> same("keep()", desk::keep, oracle::keep);
            case 18 -> {
                int what = upTo(3);
                same("changes(" + what + ")", () -> desk.changes(what), () -> oracle.changes(what));
            }
            case 19 -> same("friction()", desk::friction, oracle::friction);
            default -> same("digest()", desk::digest, oracle::digest);
        }
    }

    /** Makes texts of libraries, most of them right, some beyond a limit. */
    static final class Texts {
        static final String[] WORDS = {"fact", "clause", "when", "optional", "needs", "bars", "after", "ref", "def",
            "use", "show", "if", "else", "points", "point", "and", "or", "not", "min", "max", "{", "}", "(", ")", "[",
            "]", ";", ",", "+", "-", "*", "/", "<", ">", "=", "<=", ">=", "1", "12345", "123456", "x", "a", "t1",
            "abcdefghij", "abcdefghijk", "'x'", "''", "'", "\n"};

        private final Random random;
        private final StringBuilder out = new StringBuilder();
        private final List<String> facts = new ArrayList<>();
        private final List<String> clauses = new ArrayList<>();
        private int terms;
        private int deepest;
        private double wrongNames;

        Texts(Random random) {
            this.random = random;
        }

        private boolean chance(double p) {
            return random.nextDouble() < p;
        }

        private String pick(List<String> names) {
            return names.isEmpty() || chance(wrongNames) ? "nobody" : names.get(random.nextInt(names.size()));
        }

        String library() {
            wrongNames = chance(0.25) ? 0.04 : 0;
            deepest = chance(0.06) ? 9 : 1 + random.nextInt(4);
            terms = chance(0.08) ? 28 : 1 + random.nextInt(6);
            int factCount = chance(0.03) ? 11 : random.nextInt(5);
            int clauseCount = chance(0.05) ? 17 : 1 + random.nextInt(random.nextInt(16) + 1);
            int items = clauseCount > 8 ? 3 : 6;
            double optional = random.nextDouble();
            for (int i = 0; i < clauseCount; i++) {
                clauses.add((chance(0.3) ? "clausename" : "c" + i).substring(0, 2) + i);
            }
            List<String> toTell = new ArrayList<>(clauses);
            int optionals = 0;
            int most = chance(0.05) ? 9 : 8;
            while (!toTell.isEmpty() || facts.size() < factCount) {
                if (facts.size() < factCount && (toTell.isEmpty() || chance(0.6))) {
                    facts.add(chance(wrongNames) && !facts.isEmpty() ? facts.get(0) : "f" + facts.size());
                    say("fact", facts.get(facts.size() - 1), "=", "" + random.nextInt(chance(0.1) ? 100000 : 30), ";");
                } else {
                    boolean isOptional = optionals < most && chance(optional);
                    optionals += isOptional ? 1 : 0;
                    clause(toTell.remove(0), isOptional, items);
                }
            }
            return out.toString();
        }

        private void say(String... words) {
            for (String word : words) {
                out.append(word).append(chance(0.1) ? "\n" : chance(0.05) ? "  " : " ");
            }
        }

        private void clause(String name, boolean optional, int items) {
            say("clause", chance(wrongNames) ? clauses.get(0) : name);
            if (chance(0.35)) {
                say("when");
                test(0);
            }
            if (optional) {
                say("optional", "" + random.nextInt(chance(0.1) ? 100000 : 12), "" + random.nextInt(8));
            }
            int links = random.nextInt(chance(0.1) ? 12 : 4);
            for (int i = 0; i < links; i++) {
                other(new String[] {"needs", "bars", "after"}[random.nextInt(3)], name);
            }
            block(0, items);
        }

        private void other(String keyword, String name) {
            String other = pick(clauses);
            if (!other.equals(name) || chance(wrongNames)) {
                say(keyword, other);
            }
        }

        private String inWhich() {
            int at = out.lastIndexOf("clause ");
            at = Math.max(at, out.lastIndexOf("clause\n"));
            return out.substring(at + 7).trim().split("\\s+")[0];
        }

        private void block(int depth, int items) {
            say("{");
            int count = random.nextInt(items + 1);
            for (int i = 0; i < count; i++) {
                item(depth + 1, Math.max(1, items / 2));
            }
            say("}");
        }

        private void item(int depth, int items) {
            int what = random.nextInt(depth < deepest ? 9 : 6);
            String term = "t" + (char) ('a' + random.nextInt(terms));
            if (what == 0) {
                say(random.nextInt(4) == 0 ? "'" + "abcdefghij".repeat(4) + "'" : "'s" + random.nextInt(9) + "'");
            } else if (what == 1) {
                other("ref", inWhich());
            } else if (what == 2 || what == 3) {
                say("use", term);
            } else if (what == 4) {
                say("def", term);
            } else if (what == 5) {
                say("show");
                sum(depth);
                say(";");
            } else if (what < 8) {
                say("if");
                test(depth);
                block(depth, items);
                if (chance(0.5)) {
                    say("else");
                    block(depth, items);
                }
            } else {
                say("points", "{");
                int points = random.nextInt(3);
                for (int i = 0; i < points; i++) {
                    say("point");
                    block(depth + 1, items);
                }
                say("}");
            }
        }

        private void test(int depth) {
            both(depth);
            if (chance(0.2)) {
                say("or");
                both(depth);
            }
        }

        private void both(int depth) {
            single(depth);
            if (chance(0.2)) {
                say("and");
                single(depth);
            }
        }

        private void single(int depth) {
            if (depth < deepest && chance(0.15)) {
                say("not");
                single(depth + 1);
            } else if (depth < deepest && chance(0.15)) {
                say("[");
                test(depth + 1);
                say("]");
            } else {
                sum(depth);
                say(new String[] {"<", ">", "=", "<=", ">="}[random.nextInt(5)]);
                sum(depth);
            }
        }

        private void sum(int depth) {
            product(depth);
            for (int i = 0; i < 3 && chance(0.25); i++) {
                say(chance(0.5) ? "+" : "-");
                product(depth);
            }
        }

        private void product(int depth) {
            value(depth);
            for (int i = 0; i < 3 && chance(0.2); i++) {
                say(chance(0.5) ? "*" : "/");
                value(depth);
            }
        }

        private void value(int depth) {
            if (depth < deepest && chance(0.3)) {
                switch (random.nextInt(3)) {
                    case 0 -> {
                        say("-");
                        value(depth + 1);
                    }
                    case 1 -> {
                        say("(");
                        sum(depth + 1);
                        say(")");
                    }
                    default -> {
                        say(chance(0.5) ? "min" : "max", "(");
                        sum(depth + 1);
                        say(",");
                        sum(depth + 1);
                        say(")");
                    }
                }
            } else if (!facts.isEmpty() && chance(0.6)) {
                say(pick(facts));
            } else {
                say("" + random.nextInt(chance(0.1) ? 100000 : 20));
            }
        }
    }
}
