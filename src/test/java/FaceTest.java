import java.io.IOException;
import java.lang.reflect.Array;
import java.lang.reflect.Field;
import java.lang.reflect.Method;
import java.lang.reflect.Modifier;
import java.nio.file.Files;
import java.nio.file.Path;
import java.util.Arrays;
import java.util.Collections;
import java.util.IdentityHashMap;
import java.util.Set;
import java.util.TreeSet;
import java.util.regex.Matcher;
import java.util.regex.Pattern;

/** The public face as the document gives it, and those rules of LANGUAGE.md that can be seen from outside. */
public final class FaceTest {
    private static final Desks DESKS = new Desks("FaceTest");
    private static final String INDEX = "IndexOutOfBoundsException";
    private static final String ARGUMENT = "IllegalArgumentException";

    public static void main(String[] args) throws IOException, IllegalAccessException {
        face();
        members();
        source(Path.of(args.length > 0 ? args[0] : ".").resolve("src/main/java/ClauseDesk.java"));
        room();
        DESKS.close();
    }

    private static void face() {
        Set<String> due = new TreeSet<>(Arrays.asList(
                "int feed(int,int,int,int,int) IllegalStateException", "int trim(int) " + ARGUMENT, "int teach()",
                "int errorAt()", "int count(int) " + INDEX, "int setFact(int,int) " + INDEX + " " + ARGUMENT,
                "int fact(int) " + INDEX, "int choose(int,int) " + INDEX + " " + ARGUMENT,
                "int clause(int,int) " + INDEX, "int clauseAt(int) " + INDEX, "int term(int,int) " + INDEX,
                "int byteAt(int) " + INDEX, "int conflict(int,int) " + INDEX, "int conflicts(int) " + INDEX,
                "int fewest()", "int would(int,int,int) " + INDEX + " " + ARGUMENT, "int advise()",
                "int calmest(int,int,int) " + INDEX + " " + ARGUMENT, "int keep()", "int changes(int) " + INDEX,
                "double friction()", "long digest()"));
        Set<String> told = new TreeSet<>();
        for (Method method : ClauseDesk.class.getDeclaredMethods()) {
            if (!Modifier.isPrivate(method.getModifiers()) && !method.isSynthetic()) {
                StringBuilder line = new StringBuilder(method.getReturnType() + " " + method.getName() + "(");
                for (Class<?> type : method.getParameterTypes()) {
                    line.append(line.charAt(line.length() - 1) == '(' ? "" : ",").append(type);
                }
                line.append(')');
                for (Class<?> type : method.getExceptionTypes()) {
                    line.append(' ').append(type.getSimpleName());
                }
                told.add(line.toString());
                DESKS.due(method.getName() + " is public alone", method.getModifiers(), Modifier.PUBLIC);
            }
        }
        DESKS.due("the methods", told, due);
        DESKS.due("the class", ClauseDesk.class.getModifiers(), Modifier.PUBLIC | Modifier.FINAL);
        DESKS.due("its constructors", Arrays.toString(ClauseDesk.class.getDeclaredConstructors()), "[public ClauseDesk()]");
    }

    private static void members() {
        Set<String> faces = new TreeSet<>();
        for (Method method : ClauseDesk.class.getMethods()) {
            faces.add(method.getName());
        }
        for (Field field : ClauseDesk.class.getDeclaredFields()) {
            DESKS.due("the field " + field.getName() + " is private", Modifier.isPrivate(field.getModifiers()), true);
        }
        Class<?>[] inner = ClauseDesk.class.getDeclaredClasses();
        DESKS.due("at most twelve classes", inner.length <= 12, true);
        for (Class<?> type : inner) {
            DESKS.due(type + " is no part of the face",
                    Modifier.isPublic(type.getModifiers()) || Modifier.isProtected(type.getModifiers()), false);
            DESKS.due(type + " has at most twenty fields", own(type) <= 20, true);
            for (Method method : type.getDeclaredMethods()) {
                if (!type.isEnum()) {
                    DESKS.due(type + "." + method.getName() + " bears a name of its own", faces.contains(method.getName()), false);
                    DESKS.due(type + "." + method.getName() + " takes few parameters", method.getParameterCount() <= 7, true);
                }
            }
        }
        DESKS.due("the desk has at most twenty fields", own(ClauseDesk.class) <= 20, true);
    }

    private static int own(Class<?> type) {
        int fields = 0;
        for (Field field : type.getDeclaredFields()) {
            fields += Modifier.isStatic(field.getModifiers()) ? 0 : 1;
            if (Modifier.isStatic(field.getModifiers())) {
                DESKS.due("the static field " + field.getName() + " is final", Modifier.isFinal(field.getModifiers()), true);
            }
        }
        return fields;
    }

    private static void source(Path file) throws IOException {
        String source = Files.readString(file).replaceAll("(?s)/\\*.*?\\*/", "").replaceAll("//[^\n]*", "");
        for (String banned : new String[] {"::", "\\bpackage\\b", "\\bfinally\\b", "\\bassert\\b", "\\bsynchronized\\b",
            "\\bwhile *\\(true", "\\bSystem\\.(?!arraycopy)", "\\bThread\\b", "\\bRandom\\b", "\\bString\\.", "\\bhashCode\\b",
            "\\bgetMessage\\b", "[A-Za-z]Exact\\b", "\\bstatic \\{", "\" \\+", "\\+ \"", "\\bcatch *\\([^)]*(NullPointer|"
            + "ArrayIndex|ClassCast|NegativeArray|ArrayStore|Throwable|Error|\\bException)"}) {
            Matcher found = Pattern.compile(banned).matcher(source);
            DESKS.due("a use of " + banned, found.find(), false);
        }
        Matcher thrown = Pattern.compile("\\bthrow\\b[^;]*;").matcher(source);
        while (thrown.find()) {
            DESKS.due(thrown.group(), thrown.group().matches(
                    "throw new (Illegal(State|Argument)|IndexOutOfBounds|Arithmetic|UnsupportedOperation|NoSuchElement|Runtime)"
                    + "Exception\\((\"[^\"]*\")?\\);"), true);
        }
        methodLengths(source);
    }

    private static void methodLengths(String source) {
        String[] lines = source.split("\n");
        int start = -1;
        for (int i = 0; i < lines.length; i++) {
            if (lines[i].matches(" {4}( {4})?[A-Za-z].*\\).* \\{")) {
                start = i;
            } else if (start >= 0 && lines[i].matches(" {4}( {4})?\\}")) {
                DESKS.due("lines of" + lines[start] + " are few", i - start < 60, true);
                start = -1;
            }
        }
    }

    /** Calls keep nothing that grows, and what is kept is small in a room of 7.3 million. */
    private static void room() throws IllegalAccessException {
        Set<Object> seen = Collections.newSetFromMap(new IdentityHashMap<>());
        Desk desk = new Desk();
        long before = elements(desk, seen);
        int objects = seen.size();
        for (int i = 0; i < 30; i++) {
            Desks.tell(desk, "fact f=1;clause a{show f;def t use t ref b}clause b optional 1 1{}");
            desk.teach();
            desk.keep();
            desk.would(1, 1, 0);
            desk.advise();
            desk.calmest(0, 0, 40);
            desk.digest();
        }
        seen.clear();
        long elements = elements(desk, seen);
        System.out.println("a desk: " + objects + " objects, " + before + " fields and elements; behind many calls: "
                + seen.size() + " objects, " + elements + " fields and elements");
        DESKS.due("few elements", elements < 200000, true);
        DESKS.due("few objects", seen.size() < 20000, true);
    }

    private static long elements(Object object, Set<Object> seen) throws IllegalAccessException {
        if (object == null || object instanceof Enum || object instanceof String || !seen.add(object)) {
            return 0;
        }
        long count = 0;
        if (object.getClass().isArray()) {
            int length = Array.getLength(object);
            for (int i = 0; i < length && !object.getClass().getComponentType().isPrimitive(); i++) {
                count += elements(Array.get(object, i), seen);
            }
            return count + length;
        }
        for (Field field : object.getClass().getDeclaredFields()) {
            if (!Modifier.isStatic(field.getModifiers())) {
                field.setAccessible(true);
                count += 1 + (field.getType().isPrimitive() ? 0 : elements(field.get(object), seen));
            }
        }
        return count;
    }
}
