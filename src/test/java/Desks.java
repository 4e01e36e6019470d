import java.nio.charset.StandardCharsets;
import java.util.Arrays;

/** What the tests share: feeding texts to a desk, and counting answers that are not the due ones. */
final class Desks {
    private final String name;
    private int asked = 0;
    private int wrong = 0;

    Desks(String name) {
        this.name = name;
    }

    interface Call {
        long answer();
    }

    /** Puts a text on the tape, which is empty, or holds what was fed before. */
    static void tell(ClauseDesk desk, String text) {
        byte[] bytes = text.getBytes(StandardCharsets.ISO_8859_1);
        int before = desk.count(4);
        byte[] padded = Arrays.copyOf(bytes, (bytes.length + 19) / 20 * 20);
        for (int i = 0; i < padded.length; i += 20) {
            desk.feed(word(padded, i), word(padded, i + 4), word(padded, i + 8), word(padded, i + 12), word(padded, i + 16));
        }
        desk.trim(before + bytes.length);
    }

    static int word(byte[] bytes, int at) {
        return (bytes[at] & 255) << 24 | (bytes[at + 1] & 255) << 16 | (bytes[at + 2] & 255) << 8 | bytes[at + 3] & 255;
    }

    static ClauseDesk taught(String text) {
        ClauseDesk desk = new ClauseDesk();
        tell(desk, text);
        int error = desk.teach();
        if (error != 0) {
            throw new IllegalArgumentException("error " + error + " at " + desk.errorAt() + " of: " + text);
        }
        return desk;
    }

    static String written(ClauseDesk desk) {
        StringBuilder text = new StringBuilder();
        for (int i = 0; i < desk.count(7); i++) {
            text.append((char) desk.byteAt(i));
        }
        return text.toString();
    }

    /** The conflicts, each as its kind, clause and other number. */
    static String found(ClauseDesk desk) {
        StringBuilder text = new StringBuilder();
        for (int i = 0; i < desk.count(6); i++) {
            text.append(i == 0 ? "" : " ").append(desk.conflict(i, 0)).append(':').append(desk.conflict(i, 1))
                    .append(',').append(desk.conflict(i, 2));
        }
        return text.toString();
    }

    void due(String what, Object answer, Object due) {
        asked++;
        if (!answer.equals(due)) {
            wrong++;
            System.out.println(name + ": " + what + " answered " + answer + ", due is " + due);
        }
    }

    /** The text's teach() answers the error at the place; 0 stands for no error. */
    void dueError(String text, int error, int place) {
        ClauseDesk desk = new ClauseDesk();
        tell(desk, text);
        String shown = text.length() > 300 ? text.substring(0, 300) + ".." : text;
        due("teach of <" + shown + ">", desk.teach() + " at " + desk.errorAt(), error + " at " + place);
        due("tape behind teach of <" + shown + ">", desk.count(4), 0);
    }

    void dueIndex(String what, ClauseDesk desk, Call call) {
        dueThrown(what, desk, call, IndexOutOfBoundsException.class);
    }

    void dueArgument(String what, ClauseDesk desk, Call call) {
        dueThrown(what, desk, call, IllegalArgumentException.class);
    }

    void dueState(String what, ClauseDesk desk, Call call) {
        dueThrown(what, desk, call, IllegalStateException.class);
    }

    private void dueThrown(String what, ClauseDesk desk, Call call, Class<?> due) {
        long before = desk.digest();
        int errorBefore = desk.errorAt();
        String answer;
        try {
            answer = "" + call.answer();
        } catch (RuntimeException e) {
            answer = e.getClass().getName();
        }
        due(what, answer, due.getName());
        due(what + " leaves all as it was", desk.digest() + " " + desk.errorAt(), before + " " + errorBefore);
    }

    /** Ends the test: with exit code 1 if an answer was wrong. */
    void close() {
        System.out.println(name + ": " + asked + " answers, " + wrong + " wrong");
        if (wrong != 0 || asked == 0) {
            System.exit(1);
        }
    }
}
