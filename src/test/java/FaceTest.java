import java.io.IOException;
import java.lang.reflect.Constructor;
import java.lang.reflect.Field;
import java.lang.reflect.Method;
import java.lang.reflect.Modifier;
import java.nio.file.Files;
import java.nio.file.Path;
import java.util.ArrayList;
import java.util.Arrays;
import java.util.List;
import java.util.Set;
import java.util.TreeSet;

/** The public face of the document, and the rules of LANGUAGE.md that can be read off the class and its text. */
public final class FaceTest {
    private static final List<String> FACE = List.of(
            "note(int,int,boolean)", "syllable(int,int,int,int,boolean)", "wipe(int,int)", "chord(int,int)",
            "melisma(int,int)", "refrain(int,int)", "align(int,int)", "translation(int,boolean)", "limit(int)",
            "place()", "x(int,int)", "box(int,int,int)", "hyphens(int,int)",
            "hyphen(int,int,int) throws ArrayIndexOutOfBoundsException", "line(int,int,int)",
            "strain() throws ArithmeticException", "faults()", "fault(int,int)", "shares(int)", "row(int)",
            "in(int,int)", "pattern(long,int)", "letter(int)", "sides(int,int)", "cuts()",
            "cut(int) throws ArrayIndexOutOfBoundsException", "told(int)", "clear()");
    private static final Set<String> OWN_THROWS = Set.of("ArrayIndexOutOfBoundsException", "ArithmeticException");
    private static final Checks checks = new Checks();

    public static void main(String[] args) throws IOException {
        constants();
        methods();
        constructors();
        nestedClasses();
        sourceText();
        checks.end();
    }

    private static void constants() {
        checks.due("UNKNOWN", WordRows.UNKNOWN, -1000001);
        checks.due("OUTSIDE", WordRows.OUTSIDE, -1000002);
        checks.due("STATE", WordRows.STATE, -1000003);
        checks.due("ROOM", WordRows.ROOM, -1000004);
        checks.due("NONE", WordRows.NONE, -1000009);
        Set<String> open = new TreeSet<>();
        for (Field field : WordRows.class.getDeclaredFields()) {
            if (!Modifier.isPrivate(field.getModifiers())) {
                open.add(Modifier.toString(field.getModifiers()) + " " + field.getType() + " " + field.getName());
            }
        }
        Set<String> want = new TreeSet<>();
        for (String name : List.of("UNKNOWN", "OUTSIDE", "STATE", "ROOM", "NONE")) {
            want.add("public static final int " + name);
        }
        checks.isTrue("the constants are " + want + ": " + open, open.equals(want));
    }

    private static void methods() {
        Set<String> open = new TreeSet<>();
        for (Method method : WordRows.class.getDeclaredMethods()) {
            if (!Modifier.isPrivate(method.getModifiers())) {
                checks.isTrue(method + " is a public int", Modifier.toString(method.getModifiers()).equals("public")
                        && method.getReturnType() == int.class);
                open.add(signature(method));
            }
        }
        checks.isTrue("the methods are those of the document: " + open, open.equals(new TreeSet<>(FACE)));
    }

    private static String signature(Method method) {
        List<String> types = new ArrayList<>();
        for (Class<?> type : method.getParameterTypes()) {
            types.add(type.getName());
        }
        String text = method.getName() + "(" + String.join(",", types) + ")";
        for (Class<?> thrown : method.getExceptionTypes()) {
            text += " throws " + thrown.getSimpleName();
        }
        return text;
    }

    private static void constructors() {
        checks.isTrue("the class is public and final",
                Modifier.toString(WordRows.class.getModifiers()).equals("public final"));
        Constructor<?>[] all = WordRows.class.getDeclaredConstructors();
        checks.isTrue("one public constructor without parameters: " + Arrays.toString(all),
                all.length == 1 && Modifier.isPublic(all[0].getModifiers()) && all[0].getParameterCount() == 0);
    }

    private static void nestedClasses() {
        Set<String> faceNames = new TreeSet<>();
        for (String signature : FACE) {
            faceNames.add(signature.substring(0, signature.indexOf('(')));
        }
        checkPrivateNames(WordRows.class, faceNames);
        Class<?>[] nested = WordRows.class.getDeclaredClasses();
        checks.isTrue("rule 11: at most twelve classes", nested.length < 12);
        for (Class<?> inside : nested) {
            int modifiers = inside.getModifiers();
            checks.isTrue("rule 1: " + inside + " is static and not open", Modifier.isStatic(modifiers)
                    && !Modifier.isPublic(modifiers) && !Modifier.isProtected(modifiers));
            checkPrivateNames(inside, faceNames);
        }
    }

    private static void checkPrivateNames(Class<?> where, Set<String> faceNames) {
        int fields = 0;
        for (Field field : where.getDeclaredFields()) {
            boolean isStatic = Modifier.isStatic(field.getModifiers());
            checks.isTrue("rule 5: " + field + " is final", !isStatic || Modifier.isFinal(field.getModifiers()));
            fields += isStatic ? 0 : 1;
        }
        checks.isTrue("rule 11: at most twenty fields in " + where, fields <= 20);
        for (Method method : where.getDeclaredMethods()) {
            boolean isOpen = Modifier.isPublic(method.getModifiers());
            checks.isTrue("rule 1: the name of " + method, isOpen || !faceNames.contains(method.getName()));
            checks.isTrue("rule 11: parameters of " + method, method.getParameterCount() <= 7);
        }
    }

    private static void sourceText() throws IOException {
        String text = Files.readString(Path.of("src/main/java/WordRows.java"));
        for (String word : List.of("import ", "package ", "catch", "finally", "synchronized", "->", "::", "assert ",
                "Exact(", "System.")) {
            checks.isTrue("the text has no '" + word + "'", !text.contains(word));
        }
        int at = text.indexOf("throw new ");
        while (at >= 0) {
            int from = at + "throw new ".length();
            String name = text.substring(from, text.indexOf('(', from));
            checks.isTrue("the document names " + name, OWN_THROWS.contains(name));
            at = text.indexOf("throw new ", from);
        }
    }
}
