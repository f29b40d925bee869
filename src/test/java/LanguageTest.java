import java.io.IOException;
import java.lang.reflect.Constructor;
import java.lang.reflect.Field;
import java.lang.reflect.Method;
import java.lang.reflect.Modifier;
import java.nio.charset.StandardCharsets;
import java.nio.file.Files;
import java.nio.file.Path;
import java.util.ArrayList;
import java.util.Arrays;
import java.util.HashSet;
import java.util.List;
import java.util.Map;
import java.util.Set;
import java.util.TreeMap;
import java.util.TreeSet;
import java.util.regex.Matcher;
import java.util.regex.Pattern;

/** The rules of LANGUAGE.md that can be seen from the file and from the compiled class. */
public final class LanguageTest {
    private static final Path SOURCE = Path.of("src/main/java/FallClocks.java");
    private static final String FACE = "lot/3 buyer/0 set/3 say/1 wipe/0 fault/0 wish/1 alternative/3 leave/2 worth/2 "
        + "why/2 top/1 swap/2 order/1 sold/2 day/2 dealt/1 price/2 likes/2 missing/0 raised/1 orders/1 gain/1 cut/2 "
        + "broken/1 lesson/1 unlearn/0 learn/3 told/1";
    private static final String CONSTANTS = "UNKNOWN OUTSIDE STATE FULL NO NONE LOST";
    private static final String[] FORBIDDEN = {"throw", "throws", "try", "catch", "finally", "synchronized", "assert",
        "import", "package", "native", "volatile", "transient", "protected", "var", "yield", "sealed", "permits",
        "new Object", "->", "::", "\\.\\.\\.", "Exact", "Random", "Thread", "nanoTime", "currentTimeMillis",
        "hashCode", "toString", "getClass", "System\\.(?!arraycopy)", "Math\\.(?!(max|min|abs|floorDiv|floorMod)\\b)",
        "Integer\\.(?!(bitCount|compare|max|min)\\b)", "double", "float", "long", "@"};

    private static final Pattern HEAD = Pattern.compile("^ {4}( {4})?(\\w+ )*[\\w\\[\\]]+\\(.*\\) \\{$");

    private static int wrong;

    public static void main(String[] args) throws IOException {
        String text = Files.readString(SOURCE, StandardCharsets.UTF_8);
        check(text.chars().allMatch(c -> c < 128), "a sign above 127");
        String code = withoutComments(text);
        for (String word : FORBIDDEN) {
            boolean isWord = word.matches("[A-Za-z]+");
            Matcher m = Pattern.compile(isWord ? "\\b" + word + "\\b" : word).matcher(code);
            check(!m.find(), "rule 4 to 13: found " + word);
        }
        checkFace();
        checkNested();
        checkLengths(code);
        checkWhatCouldThrow(code);
        checkDepth(code);
        System.out.println("LanguageTest: " + wrong + " wrong");
        if (wrong != 0) {
            System.exit(1);
        }
    }

    private static void check(boolean isRight, String complaint) {
        if (!isRight) {
            wrong++;
            System.out.println(complaint);
        }
    }

    private static String withoutComments(String text) {
        return text.replaceAll("(?s)/\\*.*?\\*/", "").replaceAll("//[^\n]*", "");
    }

    private static void checkFace() {
        Class<?> face = FallClocks.class;
        check(Modifier.isPublic(face.getModifiers()) && Modifier.isFinal(face.getModifiers()), "rule 1: public, final");
        Set<String> seen = new TreeSet<>();
        for (Method m : face.getDeclaredMethods()) {
            if (Modifier.isPublic(m.getModifiers())) {
                seen.add(m.getName() + "/" + m.getParameterCount());
                check(m.getReturnType() == int.class && !Modifier.isStatic(m.getModifiers()), "rule 1: " + m);
            } else {
                check(Modifier.isPrivate(m.getModifiers()), "rule 1: seen from outside: " + m);
            }
        }
        check(seen.equals(new TreeSet<>(Arrays.asList(FACE.split(" ")))), "rule 1: the face is " + seen);
        Set<String> constants = new HashSet<>();
        for (Field f : face.getDeclaredFields()) {
            if (Modifier.isPublic(f.getModifiers())) {
                constants.add(f.getName());
                check(f.getType() == int.class && Modifier.isStatic(f.getModifiers())
                    && Modifier.isFinal(f.getModifiers()), "rule 1: " + f);
            } else {
                check(Modifier.isPrivate(f.getModifiers()), "rule 1: seen from outside: " + f);
            }
        }
        check(constants.equals(new HashSet<>(Arrays.asList(CONSTANTS.split(" ")))), "rule 1: constants " + constants);
        Constructor<?>[] made = face.getDeclaredConstructors();
        check(made.length == 1 && made[0].getParameterCount() == 0 && Modifier.isPublic(made[0].getModifiers()),
            "rule 1: the constructor");
    }

    private static void checkNested() {
        List<Class<?>> all = new ArrayList<>(Arrays.asList(FallClocks.class.getDeclaredClasses()));
        check(all.size() + 1 <= 12, "rule 11: classes " + (all.size() + 1));
        all.add(FallClocks.class);
        Set<String> names = new HashSet<>();
        for (String method : FACE.split(" ")) {
            names.add(method.substring(0, method.indexOf('/')));
        }
        for (Class<?> c : all) {
            boolean isFace = c == FallClocks.class;
            check(isFace || Modifier.isStatic(c.getModifiers()), "rule 2: not static: " + c);
            int fields = 0;
            for (Field f : c.getDeclaredFields()) {
                boolean isStatic = Modifier.isStatic(f.getModifiers());
                fields += isStatic ? 0 : 1;
                check(!isStatic || Modifier.isFinal(f.getModifiers()), "rule 5: not final: " + f);
            }
            check(fields <= 20, "rule 11: " + fields + " fields in " + c);
            for (Method m : c.getDeclaredMethods()) {
                check(m.getParameterCount() <= 7, "rule 11: parameters of " + m);
                check(!m.isSynthetic(), "rule 2: made by the compiler: " + m);
                check(isFace && Modifier.isPublic(m.getModifiers()) || !names.contains(m.getName()),
                    "rule 1: the name of a public method: " + m);
            }
        }
    }

    private static void checkLengths(String code) {
        String[] lines = code.split("\n");
        for (int i = 0; i < lines.length; i++) {
            if (isHead(lines[i])) {
                int length = endOf(lines, i) - i;
                check(length < 60, "rule 11: " + length + " lines: " + lines[i].trim());
            }
        }
    }

    private static boolean isHead(String line) {
        return HEAD.matcher(line).matches() && !line.trim().matches("(if|for|while|switch|else).*");
    }

    /** The row in which the method that begins at a row ends. */
    private static int endOf(String[] lines, int head) {
        String end = lines[head].substring(0, lines[head].length() - lines[head].stripLeading().length()) + "}";
        int k = head;
        while (k < lines.length && !lines[k].equals(end)) {
            k++;
        }
        return k;
    }

    private static void checkWhatCouldThrow(String code) {
        check(!Pattern.compile("/(?!\\s*=?\\s*[1-9])").matcher(code).find(), "rule 7: a divisor that is no number");
        check(!code.contains("%"), "rule 7: a rest of a division");
        check(!Pattern.compile("\\((int|short|byte|char|[A-Z]\\w*)(\\[\\])*\\)\\s*[\\w(]").matcher(code).find(),
            "rule 6: a cast");
        check(!Pattern.compile("\\bnull\\b").matcher(code).find(), "rule 7: a reference that may be null");
    }

    /** Methods are told apart by their names alone: two of one name count as one that does what both do. */
    private static void checkDepth(String code) {
        Map<String, Set<String>> called = new TreeMap<>();
        String[] lines = code.split("\n");
        for (int i = 0; i < lines.length; i++) {
            if (isHead(lines[i])) {
                Set<String> names = called.computeIfAbsent(nameOf(lines[i]), name -> new TreeSet<>());
                for (int k = i + 1; k < endOf(lines, i); k++) {
                    Matcher call = Pattern.compile("(\\w+)\\(").matcher(lines[k]);
                    while (call.find()) {
                        names.add(call.group(1));
                    }
                }
            }
        }
        check(called.size() > FACE.split(" ").length, "rule 11: methods were not found");
        for (String name : called.keySet()) {
            goDown(name, called, new ArrayList<>());
        }
    }

    private static String nameOf(String head) {
        String name = head.substring(0, head.indexOf('('));
        return name.substring(name.lastIndexOf(' ') + 1);
    }

    private static void goDown(String name, Map<String, Set<String>> called, List<String> above) {
        check(!above.contains(name), "rule 8: calls itself: " + above + " " + name);
        if (above.contains(name)) {
            return;
        }
        above.add(name);
        check(above.size() <= 8, "rule 11: calls too deep: " + above);
        for (String below : called.get(name)) {
            if (called.containsKey(below)) {
                goDown(below, called, above);
            }
        }
        above.remove(above.size() - 1);
    }
}
