import java.io.IOException;
import java.lang.reflect.InvocationTargetException;
import java.lang.reflect.Method;
import java.lang.reflect.Modifier;
import java.nio.charset.StandardCharsets;
import java.nio.file.DirectoryStream;
import java.nio.file.Files;
import java.nio.file.Path;
import java.util.Map;
import java.util.TreeMap;
import java.util.regex.Matcher;
import java.util.regex.Pattern;

/** README.md: its rows of Java, called as they stand there, and whether it tells of every call and every test. */
public final class ReadmeTest {
    private static final Path README = Path.of("README.md");
    private static final Path TESTS = Path.of("src/test/java");
    private static final Pattern FENCED = Pattern.compile("(?s)```java\n(.*?)```");
    private static final Pattern NEW = Pattern.compile("FallClocks x = new FallClocks\\(\\);");
    private static final Pattern TEXT =
        Pattern.compile("for \\(char sign : \"([!-~]+)\"\\.toCharArray\\(\\)\\) \\{ x\\.say\\(sign\\); \\}");
    private static final Pattern CALL =
        Pattern.compile("x\\.(\\w+)\\(((?:-?\\d+(?:, -?\\d+)*)?)\\); +// (LOST - \\d|[A-Z]+|-?\\d+)(?:: .*)?");
    private static final Map<String, Integer> WORDS = Map.of("UNKNOWN", FallClocks.UNKNOWN, "OUTSIDE", FallClocks.OUTSIDE,
        "STATE", FallClocks.STATE, "FULL", FallClocks.FULL, "NO", FallClocks.NO, "NONE", FallClocks.NONE,
        "LOST - 1", FallClocks.LOST - 1, "LOST - 2", FallClocks.LOST - 2);

    private final Map<String, Method> face = new TreeMap<>();
    private FallClocks x;
    private int calls;
    private int wrong;

    public static void main(String[] args) throws IOException {
        String text = Files.readString(README, StandardCharsets.UTF_8);
        ReadmeTest test = new ReadmeTest();
        test.playRows(text);
        test.lookForCalls(text);
        test.lookForTests(text);
        System.out.println("ReadmeTest: " + test.calls + " calls, " + test.wrong + " wrong");
        if (test.wrong != 0) {
            System.exit(1);
        }
    }

    private ReadmeTest() {
        for (Method method : FallClocks.class.getDeclaredMethods()) {
            if (Modifier.isPublic(method.getModifiers())) {
                face.put(method.getName(), method);
            }
        }
    }

    private void complain(String complaint) {
        wrong++;
        System.out.println("README.md: " + complaint);
    }

    private void playRows(String text) {
        Matcher fenced = FENCED.matcher(text);
        while (fenced.find()) {
            for (String row : fenced.group(1).split("\n")) {
                if (!row.isBlank()) {
                    play(row.trim());
                }
            }
        }
        if (calls == 0) {
            complain("no row of Java was found");
        }
    }

    private void play(String row) {
        Matcher said = TEXT.matcher(row);
        Matcher call = CALL.matcher(row);
        if (NEW.matcher(row).matches()) {
            x = new FallClocks();
        } else if (x != null && said.matches()) {
            for (char sign : said.group(1).toCharArray()) {
                x.say(sign);
                calls++;
            }
        } else if (x != null && call.matches() && face.containsKey(call.group(1))) {
            int got = answer(face.get(call.group(1)), call.group(2));
            int due = number(call.group(3));
            if (got != due) {
                complain(row + " answered " + got);
            }
        } else {
            complain("a row that can not be called: " + row);
        }
    }

    private int answer(Method method, String list) {
        String[] words = list.isEmpty() ? new String[0] : list.split(", ");
        Object[] numbers = new Object[words.length];
        for (int i = 0; i < words.length; i++) {
            numbers[i] = Integer.parseInt(words[i]);
        }
        calls++;
        try {
            return (Integer) method.invoke(x, numbers);
        } catch (IllegalAccessException | InvocationTargetException thrown) {
            throw new IllegalStateException(method + " threw", thrown);
        }
    }

    private static int number(String word) {
        return WORDS.containsKey(word) ? WORDS.get(word) : Integer.parseInt(word);
    }

    /** A row of the table of calls for each, with as many parameters as it has. */
    private void lookForCalls(String text) {
        for (Method method : face.values()) {
            int count = method.getParameterCount();
            String list = count == 0 ? "" : "\\w+(, \\w+){" + (count - 1) + "}";
            if (!Pattern.compile("(?m)^\\| `" + method.getName() + "\\(" + list + "\\)` \\|").matcher(text).find()) {
                complain("the table has no row for " + method.getName());
            }
        }
    }

    private void lookForTests(String text) throws IOException {
        try (DirectoryStream<Path> files = Files.newDirectoryStream(TESTS, "*Test.java")) {
            for (Path file : files) {
                String name = file.getFileName().toString().replace(".java", "");
                if (!text.contains("`" + name + "`")) {
                    complain("nothing is told of " + name);
                }
            }
        }
    }
}
