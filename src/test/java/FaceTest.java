import java.io.IOException;
import java.lang.reflect.Array;
import java.lang.reflect.Constructor;
import java.lang.reflect.Field;
import java.lang.reflect.Method;
import java.lang.reflect.Modifier;
import java.nio.file.Files;
import java.nio.file.Path;
import java.util.ArrayDeque;
import java.util.ArrayList;
import java.util.Arrays;
import java.util.Collections;
import java.util.Deque;
import java.util.HashSet;
import java.util.IdentityHashMap;
import java.util.List;
import java.util.Set;
import java.util.TreeSet;
import java.util.regex.Matcher;
import java.util.regex.Pattern;

/** The public face of the document, and those rules of LANGUAGE.md that can be seen from the class or its text. */
public final class FaceTest {
    private static final String[] FACE = {"told 1", "joined 2", "below 2", "place 2", "wayAt 2", "mapped 2", "steps 1", "worked 2",
        "build 3", "cell 3", "start 3", "way 2", "drop 1", "map 3", "marks 3", "gate 2", "write 3", "copy 0", "drift 1", "undo 1",
        "note 3", "tear 0", "seed 1", "keep 1", "goBack 1"};
    private static final String[] CONSTANTS = {"NONE", "UNKNOWN", "OUTSIDE", "NOT", "FULL"};
    private static final String[] FORBIDDEN = {"throw", "throws", "try", "catch", "synchronized", "assert", "import", "package", "->", "::",
        "Random", "Thread", "currentTimeMillis", "nanoTime", "Exact(", "protected", "volatile", "native", "Object"};

    private static int looks = 0;
    private static int wrong = 0;

    private static void look(String what, boolean holds) {
        looks++;
        if (!holds) {
            wrong++;
            System.out.println("does not hold: " + what);
        }
    }

    public static void main(String[] args) throws IOException {
        lookAtFace();
        lookAtMembers();
        lookAtClasses();
        lookAtText(Files.readString(Path.of(args[0])));
        if (args.length > 1 && Files.exists(Path.of(args[1]))) {
            lookAtDocument(Files.readString(Path.of(args[1])));
        }
        lookAtRoom();
        System.out.println("FaceTest: " + looks + " looks, " + wrong + " do not hold");
        if (wrong != 0) {
            System.exit(1);
        }
    }

    private static void lookAtFace() {
        Set<String> methods = new TreeSet<>();
        for (Method method : FixedFacts.class.getDeclaredMethods()) {
            if (Modifier.isPublic(method.getModifiers())) {
                methods.add(method.getName() + " " + method.getParameterCount());
                boolean ofInts = Arrays.stream(method.getParameterTypes()).allMatch(type -> type == int.class);
                look(method + " is of ints", ofInts && method.getReturnType() == int.class);
                look(method + " belongs to an object", !Modifier.isStatic(method.getModifiers()));
            }
        }
        look("the public methods are the document's", methods.equals(new TreeSet<>(Arrays.asList(FACE))));
        Set<String> constants = new HashSet<>();
        for (Field field : FixedFacts.class.getDeclaredFields()) {
            if (Modifier.isPublic(field.getModifiers())) {
                constants.add(field.getName());
                look(field + " is a constant int", Modifier.isFinal(field.getModifiers())
                        && Modifier.isStatic(field.getModifiers()) && field.getType() == int.class);
            }
        }
        look("the constants are the document's", constants.equals(new HashSet<>(Arrays.asList(CONSTANTS))));
        Constructor<?>[] constructors = FixedFacts.class.getDeclaredConstructors();
        look("one public constructor", constructors.length == 1 && constructors[0].getParameterCount() == 0
                && Modifier.isPublic(constructors[0].getModifiers()));
        int modifiers = FixedFacts.class.getModifiers();
        look("the class is public and final", Modifier.isPublic(modifiers) && Modifier.isFinal(modifiers));
    }

    /** The face that is looked for here is the one that the document tells. */
    private static void lookAtDocument(String document) {
        Set<String> told = new TreeSet<>();
        Matcher matcher = Pattern.compile("(?m)^    public int (\\w+)\\(([^)]*)\\);$").matcher(document);
        while (matcher.find()) {
            String parameters = matcher.group(2);
            told.add(matcher.group(1) + " " + (parameters.isEmpty() ? 0 : parameters.split(",").length));
        }
        look("the document tells this face", told.equals(new TreeSet<>(Arrays.asList(FACE))));
    }

    /** All that an object ever holds is made with it, and is small beside the one room that all calls of a run share. */
    private static void lookAtRoom() {
        FixedFacts x = new FixedFacts();
        Set<Object> made = reachedFrom(x);
        look("an object holds some 200 objects and arrays", made.size() < 300);
        look("an object holds some 7,000 fields and elements", sizeOf(made) < 10000);
        for (int k = 0; k < 64; k++) {
            x.build(k % 3, 1 + k % 8, 1 + k % 10);
            x.drift(16);
            x.told(9);
            x.steps(k % 3);
            x.note(0, 0, 0);
            x.copy();
            x.keep(k % 2);
            x.goBack(k % 2);
        }
        look("no call makes an object that is held", reachedFrom(x).equals(made));
    }

    private static Set<Object> reachedFrom(Object first) {
        Set<Object> reached = Collections.newSetFromMap(new IdentityHashMap<>());
        Deque<Object> open = new ArrayDeque<>();
        open.add(first);
        while (!open.isEmpty()) {
            Object one = open.remove();
            if (reached.add(one)) {
                open.addAll(heldBy(one));
            }
        }
        return reached;
    }

    private static List<Object> heldBy(Object one) {
        if (one instanceof Object[] row) {
            return Arrays.asList(row);
        }
        List<Object> held = new ArrayList<>();
        for (Field field : one.getClass().getDeclaredFields()) {
            if (!Modifier.isStatic(field.getModifiers()) && !field.getType().isPrimitive()) {
                held.add(valueOf(field, one));
            }
        }
        return held;
    }

    private static Object valueOf(Field field, Object one) {
        try {
            field.setAccessible(true);
            return field.get(one);
        } catch (IllegalAccessException e) {
            throw new IllegalStateException(e);
        }
    }

    private static int sizeOf(Set<Object> objects) {
        int size = 0;
        for (Object one : objects) {
            size += one.getClass().isArray() ? Array.getLength(one) : one.getClass().getDeclaredFields().length;
        }
        return size;
    }

    private static void lookAtMembers() {
        Set<String> face = new HashSet<>();
        for (String method : FACE) {
            face.add(method.substring(0, method.indexOf(' ')));
        }
        for (Method method : FixedFacts.class.getDeclaredMethods()) {
            boolean isPublic = Modifier.isPublic(method.getModifiers());
            look(method + " is public or private", isPublic || Modifier.isPrivate(method.getModifiers()));
            look(method + " has a name of its own", isPublic || !face.contains(method.getName()));
        }
        for (Field field : FixedFacts.class.getDeclaredFields()) {
            int modifiers = field.getModifiers();
            look(field + " is public or private", Modifier.isPublic(modifiers) || Modifier.isPrivate(modifiers));
        }
        for (Class<?> inside : FixedFacts.class.getDeclaredClasses()) {
            for (Method method : inside.getDeclaredMethods()) {
                look(method + " has a name of its own", !face.contains(method.getName()));
            }
        }
    }

    private static void lookAtClasses() {
        Class<?>[] inside = FixedFacts.class.getDeclaredClasses();
        look("twelve classes at most", inside.length < 12);
        lookAtClass(FixedFacts.class);
        for (Class<?> one : inside) {
            look(one + " is static", Modifier.isStatic(one.getModifiers()));
            look(one + " is not public", !Modifier.isPublic(one.getModifiers()));
            lookAtClass(one);
        }
    }

    private static void lookAtClass(Class<?> one) {
        int fields = 0;
        for (Field field : one.getDeclaredFields()) {
            boolean isStatic = Modifier.isStatic(field.getModifiers());
            look(field + " of a class is final", !isStatic || Modifier.isFinal(field.getModifiers()));
            fields += isStatic ? 0 : 1;
        }
        look(one + " has twenty fields at most", fields <= 20);
        for (Method method : one.getDeclaredMethods()) {
            look(method + " takes seven at most", method.getParameterCount() <= 7);
        }
    }

    private static void lookAtText(String text) {
        String code = text.replaceAll("(?s)/\\*.*?\\*/", "").replaceAll("//[^\n]*", "");
        for (String word : FORBIDDEN) {
            boolean isWord = Character.isLetter(word.charAt(0));
            String pattern = isWord ? "\\b" + Pattern.quote(word) : Pattern.quote(word);
            boolean whole = isWord && Character.isLetter(word.charAt(word.length() - 1));
            look("no " + word, !Pattern.compile(whole ? pattern + "\\b" : pattern).matcher(code).find());
        }
        look("plain signs alone", text.chars().allMatch(sign -> sign < 128));
        lookAtLengths(text.split("\n"));
        for (String line : code.split("\n")) {
            boolean isMadeWithTheObject = line.matches(" +(private )?final .* = new .*") || line.trim().equals("ring[i] = new Web();");
            look("no call makes an object: " + line.trim(), isMadeWithTheObject || !line.matches(".*\\bnew\\b.*"));
        }
    }

    /** A method begins at a line that ends with ") {" and is no statement, and ends at the brace below its first letter. */
    private static void lookAtLengths(String[] lines) {
        Pattern head = Pattern.compile("^( +)(public |private )?(static )?[\\w\\[\\]]+ ?\\w*\\([^;]*\\) \\{$");
        for (int i = 0; i < lines.length; i++) {
            Matcher matcher = head.matcher(lines[i]);
            if (matcher.matches()) {
                int end = i;
                while (end < lines.length && !lines[end].equals(matcher.group(1) + "}")) {
                    end++;
                }
                look("sixty lines at most: " + lines[i].trim(), end - i < 60);
            }
        }
    }
}
