import java.lang.reflect.Field;
import java.lang.reflect.Method;
import java.lang.reflect.Modifier;
import java.nio.file.Files;
import java.nio.file.Path;
import java.util.ArrayList;
import java.util.Arrays;
import java.util.List;
import java.util.TreeSet;
import java.util.regex.Matcher;
import java.util.regex.Pattern;

/** The public face, and those rules of LANGUAGE.md that can be seen in the program's text or its classes. */
public final class LanguageTest {
    private static final String PROGRAM = "src/main/java/LetterChute.java";
    private static final String FACE =
        "int row(int,int,int) int set(int,int,int) int copy(int,int,int,int,int) int drop(int) int feed(int) int house() "
        + "int fault() int undo() int ticks(int) int wide(int) int poke(int) int post(int,int) int letter(int,int) "
        + "int floor(int,int) int stand(int) int ahead(int,int,int) int full(int,int) int all(int,int) int when(int,int) "
        + "int over() int order(int,int) int need(int) int latest(int,int) int sets(int,int) int share(int,int) "
        + "int byTurns(int,int) int who(int,int,int,int,int) long lost(int,int,int,int) int drawn(int,int,int) int image(int) "
        + "int restore(int) int kind(int) int as(int,int) int ask(int,int) int trace(int) int count(int) int status()";
    private static final Check CHECK = new Check();

    public static void main(String[] args) throws Exception {
        theFace();
        theConstants();
        theClassesInside();
        theText();
        theLibrary();
        CHECK.end();
    }

    private static void so(String rule, boolean holds) {
        CHECK.due(rule, holds ? 1 : 0, 1);
    }

    private static void theFace() {
        TreeSet<String> open = new TreeSet<>();
        for (Method m : LetterChute.class.getDeclaredMethods()) {
            if (!Modifier.isPrivate(m.getModifiers())) {
                so(m.getName() + " is public and of the object", m.getModifiers() == Modifier.PUBLIC);
                String types = Arrays.stream(m.getParameterTypes()).map(Class::getName).reduce((a, b) -> a + "," + b).orElse("");
                open.add(m.getReturnType().getName() + " " + m.getName() + "(" + types + ")");
            }
        }
        TreeSet<String> due = new TreeSet<>(Arrays.asList(FACE.split("(?<=\\)) ")));
        so("the face is " + due + ", it was " + open, open.equals(due));
        so("one constructor", LetterChute.class.getDeclaredConstructors().length == 1);
        so("it is public", LetterChute.class.getConstructors().length == 1);
        so("the class is public and final", LetterChute.class.getModifiers() == (Modifier.PUBLIC | Modifier.FINAL));
    }

    private static void theConstants() {
        TreeSet<String> open = new TreeSet<>();
        for (Field f : LetterChute.class.getDeclaredFields()) {
            if (!Modifier.isPrivate(f.getModifiers())) {
                open.add(f.getName());
            }
        }
        so("constants, it was " + open, open.equals(new TreeSet<>(List.of("BAD", "FULL", "NONE", "STATE"))));
        CHECK.due("NONE", LetterChute.NONE, -1000000);
        CHECK.due("BAD", LetterChute.BAD, -1000001);
        CHECK.due("STATE", LetterChute.STATE, -1000002);
        CHECK.due("FULL", LetterChute.FULL, -1000003);
    }

    private static void theClassesInside() {
        List<Class<?>> classes = new ArrayList<>(Arrays.asList(LetterChute.class.getDeclaredClasses()));
        so("at most twelve classes", classes.size() < 12);
        classes.add(LetterChute.class);
        for (Class<?> c : classes) {
            so(c + " is static and not public", c == LetterChute.class
                || Modifier.isStatic(c.getModifiers()) && !Modifier.isPublic(c.getModifiers()));
            int fields = 0;
            for (Field f : c.getDeclaredFields()) {
                fields += Modifier.isStatic(f.getModifiers()) ? 0 : 1;
                so(f + " is no static state", !Modifier.isStatic(f.getModifiers()) || Modifier.isFinal(f.getModifiers()));
            }
            so(c + " has at most twenty fields", fields <= 20);
            for (Method m : c.getDeclaredMethods()) {
                so(m + " takes at most seven", m.getParameterCount() <= 7);
                so(m + " has a name of its own", c == LetterChute.class && Modifier.isPublic(m.getModifiers())
                    || !FACE.contains(" " + m.getName() + "("));
                so(m + " is the compiler's own", !m.isSynthetic());
            }
        }
    }

    private static String program() throws Exception {
        return Files.readString(Path.of(PROGRAM)).replaceAll("(?s)/\\*.*?\\*/", "").replaceAll("//.*", "");
    }

    /** Rule 4: functions of the library alone, and only these; no constants of it, such as the greatest int. */
    private static void theLibrary() throws Exception {
        List<String> may = List.of("Integer.bitCount(", "Integer.numberOfTrailingZeros(", "Math.min(", "Math.max(",
            "System.arraycopy(", "House.below(");
        Matcher uses = Pattern.compile("\\b[A-Z]\\w*\\.\\w+\\(?").matcher(program());
        while (uses.find()) {
            so("the library has " + uses.group(), may.contains(uses.group()));
        }
    }

    private static void theText() throws Exception {
        String text = program();
        for (String word : List.of("throw", "throws", "try", "catch", "synchronized", "assert", "import", "package", "float",
            "double", "Object", "Exception", "System.out", "hashCode", "toString")) {
            so("no " + word, !Pattern.compile("\\b" + Pattern.quote(word) + "\\b").matcher(text).find());
        }
        so("no lambda, no method reference", !text.contains("->") && !text.contains("::"));
        so("signs 1 to 127 alone", text.chars().allMatch(c -> c < 128));
        int begun = 0;
        String[] lines = text.split("\n");
        for (int i = 0; i < lines.length; i++) {
            if (lines[i].matches(" {4}( {4})?[a-z].*\\) \\{")) {
                begun = i;
            }
            if (lines[i].matches(" {4}( {4})?\\}")) {
                so("a method of at most sixty lines, ended at " + (i + 1), begun == 0 || i - begun < 60);
                begun = 0;
            }
        }
    }
}
