import java.io.IOException;
import java.lang.reflect.Method;
import java.nio.file.DirectoryStream;
import java.nio.file.Files;
import java.nio.file.Path;
import java.util.regex.Matcher;
import java.util.regex.Pattern;

/** README.md: each answer that it tells is the one that is given, and no call or test is left out. */
public final class ReadmeTests {
    private static final Checks C = new Checks("ReadmeTests");
    private static final Pattern CALL = Pattern.compile("x\\.(\\w+)\\((.*?)\\);\\s*// ([-\\w]+).*");

    public static void main(String[] args) throws Exception {
        String page = Files.readString(Path.of("README.md"));
        C.about("README.md");
        int blocks = 0;
        Matcher block = Pattern.compile("(?s)```java\n(.*?)```").matcher(page);
        while (block.find()) {
            session(block.group(1).split("\n"));
            blocks++;
        }
        C.due("sessions", blocks, 3);
        for (Method m : PulledJersey.class.getDeclaredMethods()) {
            if (java.lang.reflect.Modifier.isPublic(m.getModifiers())) {
                C.yes("it has a call of " + m.getName(), page.contains("`" + m.getName() + "("));
            }
        }
        tests(page);
        C.close();
    }

    private static void session(String[] lines) throws Exception {
        C.due(lines[0], lines[0].equals("PulledJersey x = new PulledJersey();"), true);
        PulledJersey x = new PulledJersey();
        for (int i = 1; i < lines.length; i++) {
            Matcher call = CALL.matcher(lines[i]);
            boolean isCall = call.matches();
            C.yes("a call and its answer: " + lines[i], isCall);
            if (isCall) {
                C.due(lines[i], answer(x, call.group(1), call.group(2)), number(call.group(3)));
            }
        }
    }

    private static long answer(PulledJersey x, String name, String told) throws Exception {
        String[] each = told.isEmpty() ? new String[0] : told.split(", ");
        for (Method m : PulledJersey.class.getDeclaredMethods()) {
            if (m.getName().equals(name) && m.getParameterCount() == each.length) {
                Object[] values = new Object[each.length];
                for (int i = 0; i < each.length; i++) {
                    boolean isFlag = m.getParameterTypes()[i] == boolean.class;
                    values[i] = isFlag ? (Object) each[i].equals("true") : (Object) (int) number(each[i]);
                }
                Object got = m.invoke(x, values);
                return got instanceof Boolean b ? (b ? 1 : 0) : (Integer) got;
            }
        }
        throw new IllegalArgumentException(name);
    }

    private static long number(String word) {
        switch (word) {
            case "true":
                return 1;
            case "false":
                return 0;
            case "NONE":
                return PulledJersey.NONE;
            default:
                return Long.decode(word);
        }
    }

    private static void tests(String page) throws IOException {
        try (DirectoryStream<Path> files = Files.newDirectoryStream(Path.of("src/test/java"), "*.java")) {
            for (Path file : files) {
                String name = file.getFileName().toString().replace(".java", "");
                C.yes("it names " + name, page.contains("`" + name + "`"));
            }
        }
    }
}
