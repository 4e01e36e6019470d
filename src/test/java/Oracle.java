import java.util.ArrayList;
import java.util.Arrays;
import java.util.HashMap;
import java.util.LinkedHashMap;
import java.util.List;
import java.util.Map;
import java.util.TreeMap;

/**
 * The document told a second time, in another way: trees instead of code, sets and maps instead of rows, and all
 * possibilities tried where one is looked for. Only for tests; it may use the whole Java library.
 */
final class Oracle {
    static final List<String> KEYWORDS = Arrays.asList("fact", "clause", "when", "optional", "needs", "bars", "after",
            "ref", "def", "use", "show", "if", "else", "points", "point", "and", "or", "not", "min", "max");

    static final class Refused extends RuntimeException {
        final int error;
        final int place;

        Refused(int error, int place) {
            this.error = error;
            this.place = place;
        }
    }

    record Token(String type, String text, int at) {
    }

    interface Sum {
        int value(Oracle desk);
    }

    interface Test {
        boolean holds(Oracle desk);
    }

    interface Item {
        void show(Writing writing);
    }

    record Link(String kind, Token name) {
    }

    static final class ClauseOf {
        Token name;
        int number;
        Test test;
        boolean optional;
        int gain;
        int loss;
        List<Link> links = new ArrayList<>();
        List<Item> items = new ArrayList<>();
    }

    /** A name that is looked at: its role, its token, and the clause in whose text it stands. */
    record Named(String role, Token token, ClauseOf in) {
    }

    static final class Lib {
        final Map<String, Integer> factNumbers = new LinkedHashMap<>();
        final List<Integer> facts = new ArrayList<>();
        final Map<String, Integer> clauseNumbers = new HashMap<>();
        final List<ClauseOf> clauses = new ArrayList<>();
        final Map<String, Integer> terms = new LinkedHashMap<>();
        final List<Named> names = new ArrayList<>();
    }

    // ---- reading

    static final class Reader {
        final String text;
        int at = 0;
        int tokensTaken = 0;
        Token next;
        final Lib lib = new Lib();
        ClauseOf current;

        Reader(String text) {
            this.text = text;
            advance();
        }

        Refused wrong() {
            return new Refused(1, next.at);
        }

        void advance() {
            while (at < text.length() && (text.charAt(at) == ' ' || text.charAt(at) == 10)) {
                at++;
            }
            if (at == text.length()) {
                next = new Token("end", "", at);
                return;
            }
            tokensTaken++;
            String rest = text.substring(at);
            String word = lead(rest, "[a-z][a-z0-9]*");
            String number = lead(rest, "[0-9]+");
            String string = lead(rest, "'[ -&(-~]{1,40}'");
            String symbol = lead(rest, "<=|>=|[{}()\\[\\];,+*/<>=-]");
            if (tokensTaken > 600) {
                next = new Token("bad", "", at);
            } else if (word != null) {
                String type = word.length() > 10 ? "bad" : KEYWORDS.contains(word) ? word : "name";
                next = new Token(type, word, at);
            } else if (number != null) {
                next = new Token(number.length() > 5 ? "bad" : "number", number, at);
            } else if (string != null) {
                next = new Token("string", string, at);
            } else if (symbol != null) {
                next = new Token(symbol, symbol, at);
            } else {
                next = new Token("bad", "", at);
            }
            at += next.text.length();
        }

        static String lead(String rest, String pattern) {
            java.util.regex.Matcher m = java.util.regex.Pattern.compile(pattern).matcher(rest);
            return m.lookingAt() ? m.group() : null;
        }

        boolean is(String type) {
            return next.type.equals(type);
        }

        Token need(String type) {
            if (!is(type)) {
                throw wrong();
            }
            Token taken = next;
            advance();
            return taken;
        }

        Token deeper(String type, int depth) {
            if (depth + 1 > 8) {
                throw wrong();
            }
            return need(type);
        }

        Token name(String role) {
            Token token = need("name");
            lib.names.add(new Named(role, token, current));
            return token;
        }

        Lib library() {
            while (!is("end")) {
                if (is("fact")) {
                    need("fact");
                    name("fact");
                    need("=");
                    lib.facts.add(Integer.parseInt(need("number").text));
                    need(";");
                } else {
                    need("clause");
                    clauseTold();
                }
            }
            return lib;
        }

        void clauseTold() {
            current = new ClauseOf();
            current.number = lib.clauses.size();
            current.name = name("clause");
            lib.clauses.add(current);
            if (is("when")) {
                need("when");
                current.test = test(0);
            }
            if (is("optional")) {
                need("optional");
                current.optional = true;
                current.gain = Integer.parseInt(need("number").text);
                current.loss = Integer.parseInt(need("number").text);
            }
            while (is("needs") || is("bars") || is("after")) {
                String kind = next.type;
                advance();
                current.links.add(new Link(kind, name("link")));
            }
            current.items = block(0);
            current = null;
        }

        List<Item> block(int depth) {
            deeper("{", depth);
            List<Item> items = new ArrayList<>();
            while (!is("}")) {
                items.add(item(depth + 1));
            }
            need("}");
            return items;
        }

        Item item(int depth) {
            ClauseOf in = current;
            String type = next.type;
            if (type.equals("string")) {
                String quoted = need("string").text;
                return w -> w.text(quoted.substring(1, quoted.length() - 1));
            }
            if (type.equals("ref")) {
                advance();
                String named = name("link").text;
                return w -> w.ref(in, named);
            }
            if (type.equals("def")) {
                advance();
                String named = name("term").text;
                return w -> w.def(in, named);
            }
            if (type.equals("use")) {
                advance();
                String named = name("term").text;
                return w -> w.use(in, named);
            }
            if (type.equals("show")) {
                advance();
                Sum sum = sum(depth);
                need(";");
                return w -> w.text(Integer.toString(sum.value(w.desk)));
            }
            if (type.equals("if")) {
                advance();
                Test test = test(depth);
                List<Item> then = block(depth);
                List<Item> otherwise = new ArrayList<>();
                if (is("else")) {
                    advance();
                    otherwise.addAll(block(depth));
                }
                return w -> (test.holds(w.desk) ? then : otherwise).forEach(i -> i.show(w));
            }
            need("points");
            deeper("{", depth);
            List<List<Item>> points = new ArrayList<>();
            while (is("point")) {
                advance();
                points.add(block(depth + 1));
            }
            need("}");
            return w -> {
                for (int i = 0; i < points.size(); i++) {
                    w.text(" (" + (i + 1) + ") ");
                    points.get(i).forEach(item -> item.show(w));
                }
            };
        }

        Test test(int depth) {
            Test left = both(depth);
            while (is("or")) {
                advance();
                Test one = left;
                Test other = both(depth);
                left = d -> one.holds(d) || other.holds(d);
            }
            return left;
        }

        Test both(int depth) {
            Test left = single(depth);
            while (is("and")) {
                advance();
                Test one = left;
                Test other = single(depth);
                left = d -> one.holds(d) && other.holds(d);
            }
            return left;
        }

        Test single(int depth) {
            if (is("not")) {
                deeper("not", depth);
                Test turned = single(depth + 1);
                return d -> !turned.holds(d);
            }
            if (is("[")) {
                deeper("[", depth);
                Test inner = test(depth + 1);
                need("]");
                return inner;
            }
            Sum left = sum(depth);
            String sign = next.type;
            if (!Arrays.asList("<", ">", "=", "<=", ">=").contains(sign)) {
                throw wrong();
            }
            advance();
            Sum right = sum(depth);
            return d -> {
                int c = Integer.compare(left.value(d), right.value(d));
                return sign.indexOf('=') >= 0 && c == 0 || sign.startsWith("<") && c < 0 || sign.startsWith(">") && c > 0;
            };
        }

        Sum sum(int depth) {
            Sum left = product(depth);
            while (is("+") || is("-")) {
                long sign = is("+") ? 1 : -1;
                advance();
                Sum one = left;
                Sum other = product(depth);
                left = d -> (int) (one.value(d) + sign * other.value(d));
            }
            return left;
        }

        Sum product(int depth) {
            Sum left = value(depth);
            while (is("*") || is("/")) {
                boolean times = is("*");
                advance();
                Sum one = left;
                Sum other = value(depth);
                left = d -> times ? (int) ((long) one.value(d) * other.value(d)) : ratio(one.value(d), other.value(d));
            }
            return left;
        }

        static int ratio(long a, long b) {
            return b == 0 ? 0 : (int) (a / b);
        }

        Sum value(int depth) {
            if (is("number")) {
                int number = Integer.parseInt(need("number").text);
                return d -> number;
            }
            if (is("name")) {
                String named = name("value").text;
                return d -> d.values[d.lib.factNumbers.get(named)];
            }
            if (is("-")) {
                deeper("-", depth);
                Sum turned = value(depth + 1);
                return d -> (int) -(long) turned.value(d);
            }
            if (is("(")) {
                deeper("(", depth);
                Sum inner = sum(depth + 1);
                need(")");
                return inner;
            }
            boolean least = is("min");
            if (!least && !is("max")) {
                throw wrong();
            }
            advance();
            deeper("(", depth);
            Sum one = sum(depth + 1);
            need(",");
            Sum other = sum(depth + 1);
            need(")");
            return d -> least ? Math.min(one.value(d), other.value(d)) : Math.max(one.value(d), other.value(d));
        }
    }

    static void lookAtNames(Lib lib) {
        for (ClauseOf c : lib.clauses) {
            lib.clauseNumbers.putIfAbsent(c.name.text, c.number);
        }
        List<String> told = new ArrayList<>();
        int optionals = 0;
        for (Named named : lib.names) {
            String text = named.token.text;
            int place = named.token.at;
            int error = 0;
            if (named.role.equals("fact")) {
                error = lib.factNumbers.containsKey(text) ? 2 : lib.factNumbers.size() == 10 ? 6 : 0;
                lib.factNumbers.put(text, lib.factNumbers.size());
            } else if (named.role.equals("clause")) {
                optionals += named.in.optional ? 1 : 0;
                error = told.contains(text) ? 2 : told.size() == 16 || named.in.optional && optionals == 9 ? 6 : 0;
                told.add(text);
            } else if (named.role.equals("link")) {
                error = !lib.clauseNumbers.containsKey(text) ? 3 : text.equals(named.in.name.text) ? 5 : 0;
            } else if (named.role.equals("value")) {
                error = lib.factNumbers.containsKey(text) ? 0 : 4;
            } else if (!lib.terms.containsKey(text)) {
                lib.terms.put(text, lib.terms.size());
                error = lib.terms.size() == 25 ? 6 : 0;
            }
            if (error != 0) {
                throw new Refused(error, place);
            }
        }
    }

    // ---- writing

    /** A contract, as it is written. */
    static final class Writing {
        final Oracle desk;
        final List<Integer> order;
        StringBuilder out = new StringBuilder();
        /** What is shown: "ref", "def" or "use", the clause, and the clause or term. */
        final List<Object[]> shown = new ArrayList<>();

        Writing(Oracle desk, List<Integer> order) {
            this.desk = desk;
            this.order = order;
        }

        void text(String text) {
            out.append(text);
        }

        void ref(ClauseOf in, String name) {
            int number = desk.lib.clauseNumbers.get(name);
            int place = order.indexOf(number) + 1;
            text(place == 0 ? "?" : "" + place);
            shown.add(new Object[] {"ref", in.number, number});
        }

        void def(ClauseOf in, String name) {
            text("\"" + name + "\"");
            shown.add(new Object[] {"def", in.number, desk.lib.terms.get(name)});
        }

        void use(ClauseOf in, String name) {
            text(name.substring(0, 1).toUpperCase() + name.substring(1));
            shown.add(new Object[] {"use", in.number, desk.lib.terms.get(name)});
        }
    }

    // ---- the desk

    Lib lib = new Lib();
    int[] values = new int[0];
    int[] choices = new int[0];
    StringBuilder tape = new StringBuilder();
    int errorAt = -1;
    List<Integer> keptOrder = new ArrayList<>();
    Map<Integer, String> keptTexts = new TreeMap<>();

    int feed(int... numbers) {
        if (tape.length() > 2980) {
            throw new IllegalStateException();
        }
        for (int number : numbers) {
            for (int i = 3; i >= 0; i--) {
                tape.append((char) (number >>> 8 * i & 255));
            }
        }
        return tape.length();
    }

    int trim(int n) {
        argument(n >= 0 && n <= tape.length());
        tape.setLength(n);
        return n;
    }

    int teach() {
        String text = tape.toString();
        tape.setLength(0);
        errorAt = -1;
        try {
            Lib read = new Reader(text).library();
            lookAtNames(read);
            lib = read;
        } catch (Refused r) {
            errorAt = r.place;
            return r.error;
        }
        values = lib.facts.stream().mapToInt(i -> i).toArray();
        choices = new int[lib.clauses.size()];
        Arrays.fill(choices, -1);
        keptOrder = new ArrayList<>();
        keptTexts = new TreeMap<>();
        return 0;
    }

    static void index(boolean right) {
        if (!right) {
            throw new IndexOutOfBoundsException();
        }
    }

    static void argument(boolean right) {
        if (!right) {
            throw new IllegalArgumentException();
        }
    }

    boolean holds(int c) {
        Test test = lib.clauses.get(c).test;
        return test == null || test.holds(this);
    }

    List<Integer> linked(int c, String kind) {
        List<Integer> numbers = new ArrayList<>();
        for (Link link : lib.clauses.get(c).links) {
            if (link.kind.equals(kind)) {
                numbers.add(lib.clauseNumbers.get(link.name.text));
            }
        }
        return numbers;
    }

    List<Integer> order() {
        java.util.TreeSet<Integer> in = new java.util.TreeSet<>();
        for (int c = 0; c < choices.length; c++) {
            if (choices[c] == 1 || choices[c] == -1 && !lib.clauses.get(c).optional && holds(c)) {
                in.add(c);
            }
        }
        boolean more = true;
        while (more) {
            more = false;
            for (int c : new ArrayList<>(in)) {
                for (int n : linked(c, "needs")) {
                    more |= choices[n] != 0 && in.add(n);
                }
            }
        }
        List<Integer> order = new ArrayList<>();
        while (order.size() < in.size()) {
            int pick = -1;
            for (int c : in) {
                boolean ready = !order.contains(c);
                for (int a : linked(c, "after")) {
                    ready &= !in.contains(a) || order.contains(a);
                }
                if (ready && pick < 0) {
                    pick = c;
                }
            }
            for (int c : in) {
                if (pick < 0 && !order.contains(c)) {
                    pick = c;
                }
            }
            order.add(pick);
        }
        return order;
    }

    String items(int c, List<Integer> order) {
        Writing writing = new Writing(this, order);
        lib.clauses.get(c).items.forEach(i -> i.show(writing));
        return writing.out.toString();
    }

    String contract() {
        List<Integer> order = order();
        StringBuilder all = new StringBuilder();
        for (int c : order) {
            all.append(order.indexOf(c) + 1).append(". ").append(items(c, order)).append('\n');
        }
        return all.length() > 6000 ? all.substring(0, 6000) : all.toString();
    }

    Writing shown() {
        List<Integer> order = order();
        Writing writing = new Writing(this, order);
        order.forEach(c -> lib.clauses.get(c).items.forEach(i -> i.show(writing)));
        return writing;
    }

    /** All conflicts, also those beyond the ones that are told. */
    List<int[]> allConflicts() {
        List<int[]> found = new ArrayList<>();
        Writing w = shown();
        for (int c : w.order) {
            for (int b : linked(c, "bars")) {
                if (w.order.contains(b)) {
                    found.add(new int[] {1, c, b});
                }
            }
            for (int n : linked(c, "needs")) {
                if (!w.order.contains(n)) {
                    found.add(new int[] {2, c, n});
                }
            }
            for (int a : linked(c, "after")) {
                if (w.order.indexOf(a) > w.order.indexOf(c)) {
                    found.add(new int[] {3, c, a});
                }
            }
            for (int i = 0; i < w.shown.size(); i++) {
                Object[] item = w.shown.get(i);
                int what = (int) item[2];
                if ((int) item[1] != c) {
                    continue;
                }
                boolean ahead = shownTimes(w, "def", what, i) > 0;
                boolean any = shownTimes(w, "def", what, w.shown.size()) > 0;
                if (item[0].equals("ref") && !w.order.contains(what)) {
                    found.add(new int[] {4, c, what});
                } else if (item[0].equals("def") && ahead) {
                    found.add(new int[] {5, c, what});
                } else if (item[0].equals("use") && !any) {
                    found.add(new int[] {6, c, what});
                } else if (item[0].equals("use") && !ahead) {
                    found.add(new int[] {7, c, what});
                }
            }
        }
        for (int t = 0; t < lib.terms.size(); t++) {
            if (term(t, 0) > 0 && term(t, 1) == 0) {
                found.add(new int[] {8, term(t, 2), t});
            }
        }
        return found;
    }

    static int shownTimes(Writing w, String kind, int what, int end) {
        int times = 0;
        for (int i = 0; i < end; i++) {
            times += w.shown.get(i)[0].equals(kind) && (int) w.shown.get(i)[2] == what ? 1 : 0;
        }
        return times;
    }

    List<int[]> told() {
        List<int[]> all = allConflicts();
        return all.subList(0, Math.min(60, all.size()));
    }

    int worth() {
        return order().stream().map(c -> lib.clauses.get(c)).filter(c -> c.optional).mapToInt(c -> c.gain - c.loss).sum();
    }

    int count(int what) {
        index(what >= 0 && what <= 9);
        return switch (what) {
            case 0 -> lib.facts.size();
            case 1 -> lib.clauses.size();
            case 2 -> lib.terms.size();
            case 3 -> (int) lib.clauses.stream().filter(c -> c.optional).count();
            case 4 -> tape.length();
            case 5 -> order().size();
            case 6 -> told().size();
            case 7 -> contract().length();
            case 8 -> worth();
            default -> keptOrder.size();
        };
    }

    int setFact(int fact, int value) {
        index(fact >= 0 && fact < values.length);
        argument(Math.abs((long) value) <= 99999);
        int before = values[fact];
        values[fact] = value;
        return before;
    }

    int fact(int fact) {
        index(fact >= 0 && fact < values.length);
        return values[fact];
    }

    int choose(int clause, int choice) {
        index(clause >= 0 && clause < choices.length);
        argument(choice >= -1 && choice <= 1);
        int before = choices[clause];
        choices[clause] = choice;
        return before;
    }

    int sumOf(List<Integer> clauses) {
        return clauses.stream().distinct().mapToInt(c -> 1 << c).sum();
    }

    int clause(int clause, int what) {
        index(clause >= 0 && clause < choices.length && what >= 0 && what <= 8);
        List<Integer> order = order();
        return switch (what) {
            case 0 -> choices[clause];
            case 1 -> holds(clause) ? 1 : 0;
            case 2 -> order.contains(clause) ? 1 : 0;
            case 3 -> order.indexOf(clause) + 1;
            case 4 -> lib.clauses.get(clause).optional ? 1 : 0;
            case 5 -> sumOf(linked(clause, "needs"));
            case 6 -> sumOf(linked(clause, "bars"));
            case 7 -> sumOf(linked(clause, "after"));
            default -> items(clause, order).length();
        };
    }

    int clauseAt(int place) {
        List<Integer> order = order();
        index(place >= 1 && place <= order.size());
        return order.get(place - 1);
    }

    int term(int term, int what) {
        index(term >= 0 && term < lib.terms.size() && what >= 0 && what <= 2);
        Writing w = shown();
        if (what < 2) {
            return shownTimes(w, what == 0 ? "def" : "use", term, w.shown.size());
        }
        for (Object[] item : w.shown) {
            if (item[0].equals("def") && (int) item[2] == term) {
                return (int) item[1];
            }
        }
        return -1;
    }

    int byteAt(int index) {
        String contract = contract();
        index(index >= 0 && index < contract.length());
        return contract.charAt(index);
    }

    int conflict(int index, int what) {
        List<int[]> told = told();
        index(index >= 0 && index < told.size() && what >= 0 && what <= 2);
        return told.get(index)[what];
    }

    int conflicts(int kind) {
        index(kind >= 1 && kind <= 8);
        return (int) told().stream().filter(c -> c[0] == kind).count();
    }

    int fewest() {
        List<Integer> order = order();
        int in = sumOf(order);
        int[] bars = new int[choices.length];
        for (int c = 0; c < bars.length; c++) {
            bars[c] = sumOf(linked(c, "bars"));
        }
        for (int size = 0; size <= order.size(); size++) {
            for (int gone = 0; gone <= in; gone++) {
                if ((gone & in) == gone && Integer.bitCount(gone) == size) {
                    boolean peace = true;
                    for (int c : order) {
                        peace &= (gone >> c & 1) == 1 || (bars[c] & in & ~gone) == 0;
                    }
                    if (peace) {
                        return gone;
                    }
                }
            }
        }
        throw new AssertionError();
    }

    int would(int clause, int choice, int what) {
        index(clause >= 0 && clause < choices.length && what >= 0 && what <= 3);
        argument(choice >= -1 && choice <= 1);
        int before = choices[clause];
        choices[clause] = choice;
        int answer = count(new int[] {5, 6, 8, 7}[what]);
        choices[clause] = before;
        return answer;
    }

    int advise() {
        int[] before = choices;
        int best = -1;
        long bestWorth = Long.MIN_VALUE;
        int free = 0;
        for (int c = 0; c < choices.length; c++) {
            free |= choices[c] == -1 && lib.clauses.get(c).optional ? 1 << c : 0;
        }
        for (int set = 0; set < 1 << choices.length; set++) {
            if ((set & free) == set) {
                choices = before.clone();
                for (int c = 0; c < choices.length; c++) {
                    choices[c] = (set >> c & 1) == 1 ? 1 : choices[c];
                }
                List<Integer> order = order();
                boolean peace = true;
                for (int c : order) {
                    peace &= linked(c, "bars").stream().noneMatch(order::contains) && order.containsAll(linked(c, "needs"));
                }
                if (peace && worth() > bestWorth) {
                    best = set;
                    bestWorth = worth();
                }
            }
        }
        choices = before;
        return best;
    }

    int calmest(int fact, int low, int high) {
        index(fact >= 0 && fact < values.length);
        argument(low >= -1000 && low <= 1000 && high >= low && high <= 1000 && high <= low + 40);
        int before = values[fact];
        int best = low;
        int fewest = Integer.MAX_VALUE;
        for (int v = low; v <= high; v++) {
            values[fact] = v;
            int now = told().size();
            if (now < fewest) {
                fewest = now;
                best = v;
            }
        }
        values[fact] = before;
        return best;
    }

    int keep() {
        keptOrder = order();
        keptTexts = new TreeMap<>();
        keptOrder.forEach(c -> keptTexts.put(c, items(c, keptOrder)));
        return keptOrder.size();
    }

    int changes(int what) {
        index(what >= 0 && what <= 3);
        List<Integer> order = order();
        List<Integer> common = new ArrayList<>(order);
        common.retainAll(keptOrder);
        if (what == 0) {
            return order.size() - common.size();
        }
        if (what == 1) {
            return keptOrder.size() - common.size();
        }
        if (what == 2) {
            return (int) common.stream().filter(c -> !items(c, order).equals(keptTexts.get(c))).count();
        }
        int stay = 0;
        for (int set = 0; set < 1 << common.size(); set++) {
            int last = -1;
            boolean rising = true;
            for (int i = 0; i < common.size(); i++) {
                if ((set >> i & 1) == 1) {
                    int place = keptOrder.indexOf(common.get(i));
                    rising &= place > last;
                    last = place;
                }
            }
            stay = rising ? Math.max(stay, Integer.bitCount(set)) : stay;
        }
        return common.size() - stay;
    }

    double friction() {
        int in = order().size();
        return in == 0 ? 0 : (double) told().size() / in;
    }

    long digest() {
        List<Integer> numbers = new ArrayList<>();
        for (int i = 0; i < 10; i++) {
            numbers.add(count(i));
        }
        for (int value : values) {
            numbers.add(value);
        }
        for (int c = 0; c < choices.length; c++) {
            for (int what = 0; what < 9; what++) {
                numbers.add(clause(c, what));
            }
        }
        for (int t = 0; t < lib.terms.size(); t++) {
            for (int what = 0; what < 3; what++) {
                numbers.add(term(t, what));
            }
        }
        told().forEach(c -> numbers.addAll(Arrays.asList(c[0], c[1], c[2])));
        contract().chars().forEach(numbers::add);
        for (int what = 0; what < 4; what++) {
            numbers.add(changes(what));
        }
        long d = 641;
        for (int number : numbers) {
            d = d * 31 + number;
        }
        return d;
    }
}
