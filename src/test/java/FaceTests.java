import java.lang.reflect.Constructor;
import java.lang.reflect.Field;
import java.lang.reflect.Method;
import java.lang.reflect.Modifier;
import java.nio.charset.StandardCharsets;
import java.nio.file.Files;
import java.nio.file.Path;
import java.util.Set;
import java.util.TreeSet;
import java.util.regex.Matcher;
import java.util.regex.Pattern;

/** The public face as the document has it, and those rules of LANGUAGE.md that a text shows. */
public final class FaceTests {
    private static final Checks C = new Checks("FaceTests");
    private static final String[] FACE = {"state int int", "cloth boolean int int", "set boolean int int int",
        "gone boolean int", "cut boolean int", "pull int int int int", "hours int int", "feed int int int int int int",
        "end boolean int", "text int", "fault int int", "of int int int", "at int int int", "wound int int",
        "book int int int", "runs int int int", "save int int int", "comes int int int int", "all int int",
        "part int int int int int", "join int int", "quiet int", "first int int", "undo boolean",
        "image boolean boolean", "look int int"};
    private static final String[] BANNED = {"throw", "throws", "try", "catch", "synchronized", "assert", "import",
        "package", "Object", "System\\s*\\.\\s*(?!arraycopy)\\w+", "->", "::", "Thread", "protected", "native", "hashCode",
        "toString", "\\w+Exact"};

    public static void main(String[] args) throws Exception {
        constants();
        methods();
        rules();
        C.close();
    }

    private static void constants() {
        C.about("the constants");
        C.due("NONE", PulledJersey.NONE, -1);
        for (Field f : PulledJersey.class.getDeclaredFields()) {
            boolean isNone = f.getName().equals("NONE");
            C.due("field " + f.getName() + " is private", Modifier.isPrivate(f.getModifiers()), !isNone);
            boolean isFixed = !Modifier.isStatic(f.getModifiers()) || Modifier.isFinal(f.getModifiers());
            C.yes("field " + f.getName() + " is final if static", isFixed);
        }
    }

    private static void methods() {
        C.about("the methods");
        C.yes("the class is final", Modifier.isFinal(PulledJersey.class.getModifiers()));
        Set<String> want = new TreeSet<>(Set.of(FACE));
        Set<String> got = new TreeSet<>();
        Set<String> names = new TreeSet<>();
        for (Method m : PulledJersey.class.getDeclaredMethods()) {
            if (Modifier.isPrivate(m.getModifiers())) {
                continue;
            }
            StringBuilder line = new StringBuilder(m.getName()).append(' ').append(m.getReturnType());
            for (Class<?> one : m.getParameterTypes()) {
                line.append(' ').append(one);
            }
            C.yes(line + " is public, not static", (m.getModifiers() & (Modifier.PUBLIC | Modifier.STATIC)) == Modifier.PUBLIC);
            got.add(line.toString());
            names.add(m.getName());
        }
        C.yes("the face is " + want + ", it has " + got, got.equals(want));
        for (Method m : PulledJersey.class.getDeclaredMethods()) {
            if (Modifier.isPrivate(m.getModifiers())) {
                C.no("private " + m.getName() + " is named like a public one", names.contains(m.getName()));
            }
        }
        Constructor<?>[] made = PulledJersey.class.getDeclaredConstructors();
        C.due("one constructor", made.length, 1);
        C.due("without arguments", made[0].getParameterCount(), 0);
        C.yes("a public one", Modifier.isPublic(made[0].getModifiers()));
        for (Class<?> inside : PulledJersey.class.getDeclaredClasses()) {
            C.yes(inside + " is static", Modifier.isStatic(inside.getModifiers()));
            C.no(inside + " is public", Modifier.isPublic(inside.getModifiers()));
        }
    }

    private static void rules() throws Exception {
        C.about("LANGUAGE.md");
        String source = Files.readString(Path.of("src/main/java/PulledJersey.java"), StandardCharsets.ISO_8859_1);
        String code = source.replaceAll("(?s)/\\*.*?\\*/", " ").replaceAll("//[^\n]*", " ");
        for (String word : BANNED) {
            String pattern = Character.isLetter(word.charAt(0)) || word.charAt(0) == '\\' ? "\\b" + word + "\\b" : word;
            Matcher m = Pattern.compile(pattern).matcher(code);
            C.no("it has " + word, m.find());
        }
        C.no("a sign above 127", Pattern.compile("[^\\x00-\\x7f]").matcher(source).find());
        // Rows are made with the object alone, so that no call takes more of the room.
        Matcher made = Pattern.compile("(?m)^(.*)\\bnew\\s+\\w+").matcher(code);
        while (made.find()) {
            C.yes("made in a field: " + made.group().trim(), made.group(1).trim().startsWith("final ")
                || made.group(1).trim().startsWith("private final "));
        }
    }
}
