import java.io.IOException;
import java.lang.reflect.Method;
import java.lang.reflect.Modifier;
import java.nio.file.DirectoryStream;
import java.nio.file.Files;
import java.nio.file.Path;
import java.util.Set;
import java.util.TreeSet;
import java.util.regex.Matcher;
import java.util.regex.Pattern;

/** The document from its first line to its last: its face, and that each sentence has a test that quotes it. */
public final class DocumentTests {
    private static final Checks C = new Checks("DocumentTests");
    private static final Pattern TEXT = Pattern.compile("\"((?:[^\"\\\\]|\\\\.)*)\"");
    private static final Pattern QUOTE = Pattern.compile("\\.sentence\\(((?:[\\s+]*\"(?:[^\"\\\\]|\\\\.)*\")+)\\)");
    /** What joins sentences and asks for nothing by itself; the face and the constants are tested here. */
    private static final Set<String> JOINTS = Set.of("what later calls answer is free", "a DRAW of m",
        "==== 1. THE CLOTH", "DRAWN", "THE THREAD goes through all STITCHES", "==== 2", "TOKENS", "ODDS of a LOOSE loop",
        "====", "The constants: `NONE = -1`: None");

    public static void main(String[] args) throws Exception {
        String document = Files.readString(Path.of("../shared/DOC.md"));
        face(document);
        quoted(document);
        C.close();
    }

    private static void face(String document) {
        C.about("the public face");
        Set<String> want = new TreeSet<>();
        Matcher line = Pattern.compile("(?m)^    public (\\w+ \\w+\\(.*\\));$").matcher(document);
        while (line.find()) {
            want.add(line.group(1).replaceAll("(\\w+) \\w+(?=[,)])", "$1"));
        }
        Set<String> got = new TreeSet<>();
        for (Method m : PulledJersey.class.getDeclaredMethods()) {
            if (Modifier.isPublic(m.getModifiers())) {
                StringBuilder types = new StringBuilder();
                for (Class<?> type : m.getParameterTypes()) {
                    types.append(types.length() == 0 ? "" : ", ").append(type);
                }
                got.add(m.getReturnType() + " " + m.getName() + "(" + types + ")");
            }
        }
        C.due("methods of the document", want.size(), 26);
        C.yes("the face is " + want + ", it has " + got, got.equals(want));
        C.yes("the constants", document.contains("The constants: `NONE = -1`: None.") && PulledJersey.NONE == -1);
    }

    private static void quoted(String document) throws IOException {
        C.about("what no test quotes");
        boolean[] isQuoted = new boolean[document.length()];
        try (DirectoryStream<Path> files = Files.newDirectoryStream(Path.of("src/test/java"), "*BoundTests.java")) {
            for (Path file : files) {
                Matcher quote = QUOTE.matcher(Files.readString(file));
                while (quote.find()) {
                    mark(document, wordsOf(quote.group(1)), isQuoted);
                }
            }
        }
        int from = document.indexOf("An object is used");
        int to = document.indexOf("## Not promised");
        C.yes("the document has its parts", from > 0 && to > from);
        StringBuilder rest = new StringBuilder();
        for (int i = from; i < to; i++) {
            // A break keeps the words on both sides of a quote apart.
            rest.append(isQuoted[i] ? '\n' : document.charAt(i));
        }
        String open = rest.toString().replaceAll("(?s)```java.*?```", "").replaceAll("```(text)?", "")
            .replaceAll("(?m)^##.*$", "").replaceAll("(?m)^`\\w+ \\w+\\(.*?\\)`:", "");
        for (String line : open.split("\n")) {
            String words = line.replaceAll("^[\\s.,:;]+|[\\s.,:;]+$", "");
            if (!words.isEmpty()) {
                C.yes("'" + words + "'", JOINTS.contains(words));
            }
        }
    }

    private static String wordsOf(String texts) {
        StringBuilder words = new StringBuilder();
        Matcher text = TEXT.matcher(texts);
        while (text.find()) {
            words.append(text.group(1).replace("\\\"", "\"").replace("\\n", "\n").replace("\\\\", "\\"));
        }
        return words.toString();
    }

    private static void mark(String document, String words, boolean[] isQuoted) {
        int found = 0;
        for (int i = document.indexOf(words); i >= 0; i = document.indexOf(words, i + 1)) {
            java.util.Arrays.fill(isQuoted, i, i + words.length(), true);
            found++;
        }
        C.yes("the document says '" + words + "'", found > 0);
    }
}
