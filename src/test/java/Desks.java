import java.nio.charset.StandardCharsets;
import java.util.Arrays;

/** What the tests share: feeding texts to a desk, and counting answers that are not the due ones. */
final class Desks {
    /** How many bytes of a contract one desk is asked for, so that it takes no more calls than it may. */
    private static final int BYTES_A_DESK = 300;

    private final String name;
    private String sentence = "";
    private int asked = 0;
    private int wrong = 0;

    Desks(String name) {
        this.name = name;
    }

    interface Call {
        Object answer();
    }

    /** Puts a text on the tape, which is empty, or holds what was fed before. */
    static void tell(Desk desk, String text) {
        byte[] bytes = text.getBytes(StandardCharsets.ISO_8859_1);
        int before = desk.count(4);
        byte[] padded = Arrays.copyOf(bytes, (bytes.length + 19) / 20 * 20);
        for (int i = 0; i < padded.length; i += 20) {
            desk.feed(word(padded, i), word(padded, i + 4), word(padded, i + 8), word(padded, i + 12), word(padded, i + 16));
        }
        desk.trim(before + bytes.length);
    }

    static int word(byte[] bytes, int at) {
        return (bytes[at] & 255) << 24 | (bytes[at + 1] & 255) << 16 | (bytes[at + 2] & 255) << 8 | bytes[at + 3] & 255;
    }

    static Desk taught(String text) {
        Desk desk = new Desk();
        tell(desk, text);
        int error = desk.teach();
        if (error != 0) {
            throw new IllegalArgumentException("error " + error + " at " + desk.errorAt() + " of: " + text);
        }
        return desk;
    }

    static String written(Desk desk) {
        return written(desk, 0, desk.count(7));
    }

    private static String written(Desk desk, int from, int to) {
        StringBuilder text = new StringBuilder();
        for (int i = from; i < to; i++) {
            text.append((char) desk.byteAt(i));
        }
        return text.toString();
    }

    /** The contract of a library, as long as it may be. */
    static String contract(String library) {
        int length = taught(library).count(7);
        StringBuilder text = new StringBuilder();
        for (int from = 0; from < length; from += BYTES_A_DESK) {
            text.append(written(taught(library), from, Math.min(length, from + BYTES_A_DESK)));
        }
        return text.toString();
    }

    /** The clauses of the contract in their order, the first clause of the library as a. */
    static String order(Desk desk) {
        StringBuilder told = new StringBuilder();
        int clauses = desk.count(5);
        for (int place = 1; place <= clauses; place++) {
            told.append((char) ('a' + desk.clauseAt(place)));
        }
        return told.toString();
    }

    /** The conflicts, each as its kind, clause and other number. */
    static String found(Desk desk) {
        StringBuilder text = new StringBuilder();
        int conflicts = desk.count(6);
        for (int i = 0; i < conflicts; i++) {
            text.append(i == 0 ? "" : " ").append(desk.conflict(i, 0)).append(':').append(desk.conflict(i, 1))
                    .append(',').append(desk.conflict(i, 2));
        }
        return text.toString();
    }

    static String changes(Desk desk) {
        return desk.changes(0) + " " + desk.changes(1) + " " + desk.changes(2) + " " + desk.changes(3);
    }

    /** The text, once for each number, which takes the place of the sign #. */
    static String many(String text, int from, int count) {
        StringBuilder all = new StringBuilder();
        for (int i = from; i < from + count; i++) {
            all.append(text.replace("#", "" + i));
        }
        return all.toString();
    }

    /** A test of its own for a sentence of the document; the sentence is told with each wrong answer. */
    void sentence(String words, Runnable test) {
        int before = asked;
        sentence = " [" + words + "]";
        try {
            test.run();
        } catch (RuntimeException e) {
            due("the test ended by", e, "nothing");
        }
        due("the test asked", asked > before, true);
        sentence = "";
    }

    void due(String what, Object answer, Object due) {
        asked++;
        if (!answer.equals(due)) {
            wrong++;
            System.out.println(name + sentence + ": " + what + " answered " + answer + ", due is " + due);
        }
    }

    /** The text's teach() answers the error at the place; 0 stands for no error. */
    void dueError(String text, int error, int place) {
        Desk desk = new Desk();
        tell(desk, text);
        String shown = text.length() > 300 ? text.substring(0, 300) + ".." : text;
        due("teach of <" + shown + ">", desk.teach() + " at " + desk.errorAt(), error + " at " + place);
        due("tape behind teach of <" + shown + ">", desk.count(4), 0);
    }

    /** The text without the sign ^ has the error at the place of that sign. */
    void error(int error, String text) {
        dueError(text.replace("^", ""), error, text.indexOf('^'));
    }

    void right(String text) {
        dueError(text, 0, -1);
    }

    void dueOrder(String text, String due) {
        due("what is in by " + text, order(taught(text)), due);
    }

    void dueWritten(String text, String due) {
        due("the contract of " + text, contract(text), due);
    }

    void dueFound(String text, String due) {
        due("the conflicts of " + text, found(taught(text)), due);
    }

    void dueIndex(String what, Desk desk, Call call) {
        dueThrown(what, desk, call, IndexOutOfBoundsException.class);
    }

    void dueArgument(String what, Desk desk, Call call) {
        dueThrown(what, desk, call, IllegalArgumentException.class);
    }

    void dueState(String what, Desk desk, Call call) {
        dueThrown(what, desk, call, IllegalStateException.class);
    }

    private void dueThrown(String what, Desk desk, Call call, Class<?> due) {
        long before = desk.digest();
        int errorBefore = desk.errorAt();
        due(what, told(call), due.getName());
        due(what + " leaves all as it was", desk.digest() + " " + desk.errorAt(), before + " " + errorBefore);
    }

    /** What the call answers, or the name of what it throws. */
    static String told(Call call) {
        try {
            return String.valueOf(call.answer());
        } catch (RuntimeException e) {
            return e.getClass().getName();
        }
    }

    /** Ends the test: with exit code 1 if an answer was wrong. */
    void close() {
        System.out.println(name + ": " + asked + " answers, " + wrong + " wrong");
        if (wrong != 0 || asked == 0) {
            System.exit(1);
        }
    }
}
