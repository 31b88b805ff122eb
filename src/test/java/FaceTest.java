import java.io.IOException;
import java.lang.reflect.Array;
import java.lang.reflect.Field;
import java.lang.reflect.Member;
import java.lang.reflect.Method;
import java.lang.reflect.Modifier;
import java.util.ArrayDeque;
import java.util.ArrayList;
import java.util.Arrays;
import java.util.Collections;
import java.util.Deque;
import java.util.HashSet;
import java.util.IdentityHashMap;
import java.util.List;
import java.util.Random;
import java.util.Set;
import java.util.regex.Matcher;
import java.util.regex.Pattern;

/** The public face, as the document writes it; the room that an object takes; calls behind the last that is promised. */
public final class FaceTest {
    private static final int[] NUMBERS = {Integer.MIN_VALUE, -1, 0, 1, 2, 3, 5, 7, 9, 16, 19, 20, 255, 256, Integer.MAX_VALUE};

    private static Check check;

    public static void main(String[] args) throws IOException {
        check = new Check("FaceTest");
        theFace();
        noOtherMember();
        constants();
        wholeNumbers();
        partsOfTheInterface();
        roomOfAnObject();
        callsWithoutEnd();
        check.end();
    }

    // ---- the face

    private static void theFace() throws IOException {
        String face = check.says("public final class FixedFacts { "
                + "public static final int NONE = -1, UNKNOWN = -1000000001, OUTSIDE = -1000000002, NOT = -1000000003, FULL = -1000000004; "
                + "public FixedFacts(); "
                + "public int told(int what); public int joined(int a, int b); public int below(int a, int b); "
                + "public int place(int p, int what); public int wayAt(int w, int what); public int mapped(int w, int v); "
                + "public int steps(int choice); public int worked(int choice, int p); "
                + "public int build(int order, int m, int places); public int cell(int a, int b, int v); "
                + "public int start(int p, int v, int set); public int way(int from, int to); public int drop(int w); "
                + "public int map(int w, int a, int v); public int marks(int w, int gives, int takes); public int gate(int w, int v); "
                + "public int write(int p, int v, int set); public int copy(); public int drift(int n); public int undo(int n); "
                + "public int note(int p, int v, int set); public int tear(); "
                + "public int seed(int v); public int keep(int i); public int goBack(int i); }");
        String text = Texts.plain(Texts.ofClass());
        List<String> told = publicHeads(face, ";"), written = publicHeads(text, " {");
        check.due("methods of the document", told.size(), 25);
        check.holds("the class has these methods, in this order, and no other: " + written, written.equals(told));
        check.holds("the class itself", text.contains("public final class FixedFacts {"));
        check.holds("its constructor", text.contains("public FixedFacts() {"));
        check.holds("its constants", text.contains(face.substring(face.indexOf("public static"), face.indexOf(" public FixedFacts()"))));
        check.holds("nothing else is public", text.split("\\bpublic\\b").length - 1 == 25 + 3);
    }

    private static List<String> publicHeads(String text, String end) {
        List<String> heads = new ArrayList<>();
        Matcher head = Pattern.compile("public int \\w+\\([^)]*\\)" + Pattern.quote(end)).matcher(text);
        while (head.find()) {
            heads.add(head.group().substring(0, head.group().length() - end.length()));
        }
        return heads;
    }

    /** As the machine sees them, with what the compiler adds. */
    private static void noOtherMember() {
        Class<FixedFacts> one = FixedFacts.class;
        check.holds("public and final", Modifier.isPublic(one.getModifiers()) && Modifier.isFinal(one.getModifiers()));
        check.due("constructors", one.getDeclaredConstructors().length, 1);
        check.due("public constructors", one.getConstructors().length, 1);
        Set<String> names = new HashSet<>();
        List<Member> members = new ArrayList<>(Arrays.asList(one.getDeclaredFields()));
        for (Method method : one.getDeclaredMethods()) {
            members.add(method);
            if (Modifier.isPublic(method.getModifiers())) {
                check.holds(method + " has a name of its own", names.add(method.getName()));
                check.holds(method + " belongs to an object", !Modifier.isStatic(method.getModifiers()));
            }
        }
        check.due("public methods", names.size(), 25);
        for (Member member : members) {
            boolean isPublic = Modifier.isPublic(member.getModifiers());
            check.holds(member + " is public or private", isPublic || Modifier.isPrivate(member.getModifiers()));
            check.holds(member + ", no method that is not public bears such a name",
                    isPublic || member instanceof Field || !names.contains(member.getName()));
        }
        for (Class<?> inside : one.getDeclaredClasses()) {
            for (Method method : inside.getDeclaredMethods()) {
                check.holds(method + " bears no such name", !names.contains(method.getName()));
            }
        }
    }

    private static void constants() {
        check.says("NONE = -1, UNKNOWN = -1000000001, OUTSIDE = -1000000002, NOT = -1000000003, FULL = -1000000004;");
        check.due("NONE", FixedFacts.NONE, -1);
        check.due("UNKNOWN", FixedFacts.UNKNOWN, -1000000001);
        check.due("OUTSIDE", FixedFacts.OUTSIDE, -1000000002);
        check.due("NOT", FixedFacts.NOT, -1000000003);
        check.due("FULL", FixedFacts.FULL, -1000000004);
        check.due("public fields", FixedFacts.class.getFields().length, 5);
        for (Field field : FixedFacts.class.getFields()) {
            check.holds(field + " is a constant", Modifier.isStatic(field.getModifiers()) && Modifier.isFinal(field.getModifiers()));
        }
    }

    private static void wholeNumbers() {
        check.says("All numbers are whole.");
        for (Method method : FixedFacts.class.getDeclaredMethods()) {
            if (Modifier.isPublic(method.getModifiers())) {
                boolean takesInts = Arrays.stream(method.getParameterTypes()).allMatch(type -> type == int.class);
                check.holds(method + " is of ints", takesInts && method.getReturnType() == int.class);
            }
        }
        for (Field field : FixedFacts.class.getFields()) {
            check.holds(field + " is an int", field.getType() == int.class);
        }
    }

    private static void partsOfTheInterface() throws IOException {
        part("what there is", check.says("Ahead of the calls `told`, `joined`, `below`, `place`, `wayAt`, `mapped`, `steps`, "
                + "`worked` the interface says: ---- what there is."));
        part("deeds", check.says("Ahead of the calls `build`, `cell`, `start`, `way`, `drop`, `map`, `marks`, `gate`, `write`, "
                + "`copy`, `drift`, `undo` the interface says: ---- deeds."));
        part("the book", check.says("Ahead of the calls `note`, `tear` the interface says: ---- the book."));
        part("images", check.says("Ahead of the calls `seed`, `keep`, `goBack` the interface says: ---- images."));
    }

    /** From the line that the interface says on to the next such line just those calls stand. */
    private static void part(String line, String sentence) throws IOException {
        String text = Texts.ofClass();
        int begin = text.indexOf("    // ---- " + line + "\n");
        check.holds("the line stands once", begin >= 0 && text.indexOf("// ---- " + line + "\n", begin + 8) < 0);
        int end = text.indexOf("    // ----", begin + 1);
        List<String> told = new ArrayList<>(), written = new ArrayList<>();
        Matcher name = Pattern.compile("`(\\w+)`").matcher(sentence);
        while (name.find()) {
            told.add(name.group(1));
        }
        for (String head : publicHeads(text.substring(Math.max(0, begin), end < 0 ? text.length() : end), " {")) {
            written.add(head.replaceAll("public int (\\w+)\\(.*", "$1"));
        }
        check.holds("these calls stand there: " + written, written.equals(told));
    }

    // ---- the room: all that an object ever holds is made with it, and is small beside the one room of all calls

    private static void roomOfAnObject() {
        FixedFacts x = new FixedFacts();
        Set<Object> made = reachedFrom(x);
        check.holds("an object holds some 200 objects and arrays", made.size() < 300);
        check.holds("an object holds some 7,000 fields and elements", sizeOf(made) < 10000);
        for (int k = 0; k < 64; k++) {
            x.build(k % 3, 1 + k % 8, 1 + k % 10);
            x.drift(16);
            x.told(9);
            x.steps(k % 3);
            x.note(0, 0, 0);
            x.copy();
            x.keep(k % 2);
            x.goBack(k % 2);
        }
        check.holds("no call makes an object that is held", reachedFrom(x).equals(made));
    }

    private static Set<Object> reachedFrom(Object first) {
        Set<Object> reached = Collections.newSetFromMap(new IdentityHashMap<>());
        Deque<Object> open = new ArrayDeque<>();
        open.add(first);
        while (!open.isEmpty()) {
            Object one = open.remove();
            if (reached.add(one)) {
                open.addAll(heldBy(one));
            }
        }
        return reached;
    }

    private static List<Object> heldBy(Object one) {
        if (one instanceof Object[] row) {
            return Arrays.asList(row);
        }
        List<Object> held = new ArrayList<>();
        for (Field field : one.getClass().getDeclaredFields()) {
            if (!Modifier.isStatic(field.getModifiers()) && !field.getType().isPrimitive()) {
                held.add(valueOf(field, one));
            }
        }
        return held;
    }

    private static Object valueOf(Field field, Object one) {
        try {
            field.setAccessible(true);
            return field.get(one);
        } catch (IllegalAccessException e) {
            throw new IllegalStateException(e);
        }
    }

    private static int sizeOf(Set<Object> objects) {
        int size = 0;
        for (Object one : objects) {
            size += one.getClass().isArray() ? Array.getLength(one) : one.getClass().getDeclaredFields().length;
        }
        return size;
    }

    // ---- behind the 512th call

    /** What is answered there is free, but no call may ever throw or fail to end. */
    private static void callsWithoutEnd() {
        check.says("what later calls answer is free.");
        List<Method> calls = new ArrayList<>();
        for (Method method : FixedFacts.class.getDeclaredMethods()) {
            if (Modifier.isPublic(method.getModifiers())) {
                calls.add(method);
            }
        }
        // the machine tells methods in an order of its own
        calls.sort((a, b) -> a.getName().compareTo(b.getName()));
        for (int run = 0; run < 20; run++) {
            Random random = new Random(run);
            FixedFacts x = new FixedFacts();
            for (int k = 0; k < 5000; k++) {
                Method call = calls.get(random.nextInt(calls.size()));
                Object[] arguments = new Object[call.getParameterCount()];
                for (int i = 0; i < arguments.length; i++) {
                    arguments[i] = NUMBERS[random.nextInt(NUMBERS.length)];
                }
                check.holds(call.getName() + Arrays.toString(arguments) + " is answered", isAnswered(call, x, arguments));
            }
        }
    }

    private static boolean isAnswered(Method call, FixedFacts x, Object[] arguments) {
        try {
            return call.invoke(x, arguments) instanceof Integer;
        } catch (ReflectiveOperationException e) {
            return false;
        }
    }
}
