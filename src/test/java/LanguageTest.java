import java.io.IOException;
import java.lang.reflect.Constructor;
import java.lang.reflect.Field;
import java.lang.reflect.Method;
import java.lang.reflect.Modifier;
import java.nio.charset.StandardCharsets;
import java.nio.file.Files;
import java.nio.file.Path;
import java.util.ArrayList;
import java.util.Arrays;
import java.util.HashSet;
import java.util.List;
import java.util.Set;
import java.util.TreeSet;
import java.util.regex.Matcher;
import java.util.regex.Pattern;

/** The rules of LANGUAGE.md that can be seen from the file and from the compiled class. */
public final class LanguageTest {
    private static final Path SOURCE = Path.of("src/main/java/FallClocks.java");
    private static final String FACE = "lot/3 buyer/0 set/3 say/1 wipe/0 fault/0 wish/1 alternative/3 leave/2 worth/2 "
        + "why/2 top/1 swap/2 order/1 sold/2 day/2 dealt/1 price/2 likes/2 missing/0 raised/1 orders/1 gain/1 cut/2 "
        + "broken/1 lesson/1 unlearn/0 learn/3 told/1";
    private static final String CONSTANTS = "UNKNOWN OUTSIDE STATE FULL NO NONE LOST";
    private static final String[] FORBIDDEN = {"throw", "throws", "try", "catch", "finally", "synchronized", "assert",
        "import", "package", "native", "volatile", "transient", "protected", "var", "yield", "sealed", "permits",
        "new Object", "->", "::", "\\.\\.\\.", "Exact", "Random", "Thread", "nanoTime", "currentTimeMillis",
        "hashCode", "toString", "getClass", "System\\.(?!arraycopy)", "Math\\.(?!(max|min|abs|floorDiv|floorMod)\\b)",
        "Integer\\.(?!(bitCount|compare|max|min)\\b)", "double", "float", "long", "@"};

    private static int wrong;

    public static void main(String[] args) throws IOException {
        String text = Files.readString(SOURCE, StandardCharsets.UTF_8);
        check(text.chars().allMatch(c -> c < 128), "a sign above 127");
        String code = withoutComments(text);
        for (String word : FORBIDDEN) {
            boolean isWord = word.matches("[A-Za-z]+");
            Matcher m = Pattern.compile(isWord ? "\\b" + word + "\\b" : word).matcher(code);
            check(!m.find(), "rule 4 to 13: found " + word);
        }
        checkFace();
        checkNested();
        checkLengths(code);
        System.out.println("LanguageTest: " + wrong + " wrong");
        if (wrong != 0) {
            System.exit(1);
        }
    }

    private static void check(boolean isRight, String complaint) {
        if (!isRight) {
            wrong++;
            System.out.println(complaint);
        }
    }

    private static String withoutComments(String text) {
        return text.replaceAll("(?s)/\\*.*?\\*/", "").replaceAll("//[^\n]*", "");
    }

    private static void checkFace() {
        Class<?> face = FallClocks.class;
        check(Modifier.isPublic(face.getModifiers()) && Modifier.isFinal(face.getModifiers()), "rule 1: public, final");
        Set<String> seen = new TreeSet<>();
        for (Method m : face.getDeclaredMethods()) {
            if (Modifier.isPublic(m.getModifiers())) {
                seen.add(m.getName() + "/" + m.getParameterCount());
                check(m.getReturnType() == int.class && !Modifier.isStatic(m.getModifiers()), "rule 1: " + m);
            } else {
                check(Modifier.isPrivate(m.getModifiers()), "rule 1: seen from outside: " + m);
            }
        }
        check(seen.equals(new TreeSet<>(Arrays.asList(FACE.split(" ")))), "rule 1: the face is " + seen);
        Set<String> constants = new HashSet<>();
        for (Field f : face.getDeclaredFields()) {
            if (Modifier.isPublic(f.getModifiers())) {
                constants.add(f.getName());
                check(f.getType() == int.class && Modifier.isStatic(f.getModifiers())
                    && Modifier.isFinal(f.getModifiers()), "rule 1: " + f);
            } else {
                check(Modifier.isPrivate(f.getModifiers()), "rule 1: seen from outside: " + f);
            }
        }
        check(constants.equals(new HashSet<>(Arrays.asList(CONSTANTS.split(" ")))), "rule 1: constants " + constants);
        Constructor<?>[] made = face.getDeclaredConstructors();
        check(made.length == 1 && made[0].getParameterCount() == 0 && Modifier.isPublic(made[0].getModifiers()),
            "rule 1: the constructor");
    }

    private static void checkNested() {
        List<Class<?>> all = new ArrayList<>(Arrays.asList(FallClocks.class.getDeclaredClasses()));
        check(all.size() + 1 <= 12, "rule 11: classes " + (all.size() + 1));
        all.add(FallClocks.class);
        Set<String> names = new HashSet<>();
        for (String method : FACE.split(" ")) {
            names.add(method.substring(0, method.indexOf('/')));
        }
        for (Class<?> c : all) {
            boolean isFace = c == FallClocks.class;
            check(isFace || Modifier.isStatic(c.getModifiers()), "rule 2: not static: " + c);
            int fields = 0;
            for (Field f : c.getDeclaredFields()) {
                boolean isStatic = Modifier.isStatic(f.getModifiers());
                fields += isStatic ? 0 : 1;
                check(!isStatic || Modifier.isFinal(f.getModifiers()), "rule 5: not final: " + f);
            }
            check(fields <= 20, "rule 11: " + fields + " fields in " + c);
            for (Method m : c.getDeclaredMethods()) {
                check(m.getParameterCount() <= 7, "rule 11: parameters of " + m);
                check(!m.isSynthetic(), "rule 2: made by the compiler: " + m);
                check(isFace && Modifier.isPublic(m.getModifiers()) || !names.contains(m.getName()),
                    "rule 1: the name of a public method: " + m);
            }
        }
    }

    private static void checkLengths(String code) {
        String[] lines = code.split("\n");
        Pattern head = Pattern.compile("^ {4}( {4})?(\\w+ )*[\\w\\[\\]]+\\(.*\\) \\{$");
        for (int i = 0; i < lines.length; i++) {
            if (head.matcher(lines[i]).matches() && !lines[i].trim().matches("(if|for|while|switch|else).*")) {
                String end = lines[i].substring(0, lines[i].length() - lines[i].stripLeading().length()) + "}";
                int k = i;
                while (k < lines.length && !lines[k].equals(end)) {
                    k++;
                }
                check(k - i < 60, "rule 11: " + (k - i) + " lines: " + lines[i].trim());
            }
        }
    }
}
