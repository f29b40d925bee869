import java.lang.reflect.InvocationTargetException;
import java.lang.reflect.Method;
import java.lang.reflect.Modifier;
import java.util.ArrayList;
import java.util.Arrays;
import java.util.HashMap;
import java.util.List;
import java.util.Map;
import java.util.Set;
import java.util.TreeSet;

/**
 * Runs of calls up to the boundaries that the document names and one beyond them. A run is written in
 * rows "call numbers -> answer". Behind each row that is refused, or that only asks, all that can be
 * asked of the object must be as if that row had not been called.
 *
 * Rows that stand for several calls: "lots a0 b1:30" (SORT, CLOCK and LEAST), "buyers 1a=5 -" (BUYERS
 * with a WISH or none, and without a CUT), "text 1a=5" (its signs), "wishes 0 1a=5" (a WISH for a BUYER),
 * "sells LOT BUYER PRICE TICK", "ends BUYER HEAP WORTH PAID COIN", "stand LOT .. LOT" (the ORDER).
 */
final class Edge {
    private static final int MOST_CALLS = 512;
    private static final Set<String> CHANGING = Set.of("lot", "buyer", "set", "say", "wipe", "wish", "leave", "top",
        "swap", "price", "lesson", "unlearn");
    private static final Map<String, Integer> WORDS = new HashMap<>(Map.of("UNKNOWN", -1, "OUTSIDE", -2, "STATE", -3,
        "FULL", -4, "NO", -5, "NONE", -6, "LOST-1", -1000000001, "LOST-2", -1000000002,
        "MIN", Integer.MIN_VALUE, "MAX", Integer.MAX_VALUE));
    private static final Set<Integer> REFUSALS = Set.of(-1, -2, -3, -4, -5, -1000000001, -1000000002);
    private static final Map<String, Method> FACE = face();

    private static final Set<Integer> promises = new TreeSet<>();
    private static int runs;
    private static int checks;
    private static int wrong;

    /** One call and the answer that is due. */
    private static final class Row {
        final String name;
        final Object[] numbers;
        final int due;

        Row(String name, int due, Object... numbers) {
            this.name = name;
            this.due = due;
            this.numbers = numbers;
        }

        boolean changes() {
            return CHANGING.contains(name) && !REFUSALS.contains(due);
        }

        int callOn(FallClocks x) {
            try {
                return (Integer) FACE.get(name).invoke(x, numbers);
            } catch (IllegalAccessException | InvocationTargetException thrown) {
                throw new IllegalStateException(this + " threw", thrown);
            }
        }

        @Override
        public String toString() {
            return name + Arrays.toString(numbers).replace('[', '(').replace(']', ')');
        }
    }

    private final String title;
    private final List<Row> rows = new ArrayList<>();
    private int lots;
    private int buyers;
    private int signs;

    private Edge(String title) {
        this.title = title;
    }

    private static Map<String, Method> face() {
        Map<String, Method> face = new HashMap<>();
        for (Method method : FallClocks.class.getDeclaredMethods()) {
            if (Modifier.isPublic(method.getModifiers())) {
                face.put(method.getName(), method);
            }
        }
        return face;
    }

    /** A run of its own for a sentence of the document. */
    static void edge(int promise, String sentence, String text) {
        promises.add(promise);
        runs++;
        Edge edge = new Edge("promise " + promise + " (" + sentence + ")");
        for (String line : text.split("\n")) {
            if (!line.isBlank()) {
                edge.read(line.trim());
            }
        }
        edge.play();
    }

    static void check(int promise, String sentence, int got, int want) {
        promises.add(promise);
        checks++;
        if (got != want) {
            complain("promise " + promise + " (" + sentence + "): answered " + got + ", due is " + want);
        }
    }

    /** Every promise from the first to the last must have been looked at. */
    static void finish(String name, int first, int last) {
        for (int promise = first; promise <= last; promise++) {
            if (!promises.contains(promise)) {
                complain("promise " + promise + " has no test of its boundaries");
            }
        }
        System.out.println(name + ": " + runs + " runs, " + checks + " checks, " + wrong + " wrong");
        if (wrong != 0) {
            System.exit(1);
        }
    }

    private static void complain(String complaint) {
        wrong++;
        System.out.println(complaint);
    }

    private void read(String line) {
        String[] words = line.split(" +");
        switch (words[0]) {
            case "lots":
                for (int i = 1; i < words.length; i++) {
                    readLot(words[i]);
                }
                break;
            case "buyers":
                for (int i = 1; i < words.length; i++) {
                    readBuyer(words[i]);
                }
                break;
            case "text":
                readText(words[1]);
                break;
            case "wishes":
                readText(words[2]);
                add(new Row("wish", words[2].split("\\|").length, number(words[1])));
                break;
            case "sells":
                for (int what = 0; what < 3; what++) {
                    add(new Row("sold", number(words[2 + what]), number(words[1]), what));
                }
                break;
            case "ends":
                for (int what = 0; what < 4; what++) {
                    add(new Row("day", number(words[2 + what]), number(words[1]), what));
                }
                break;
            case "stand":
                for (int i = 1; i < words.length; i++) {
                    add(new Row("order", number(words[i]), i - 1));
                }
                add(new Row("order", -6, words.length - 1));
                break;
            default:
                readCall(line, words);
        }
    }

    private void readLot(String word) {
        int least = word.length() > 2 ? number(word.substring(3)) : 0;
        add(new Row("lot", lots, word.charAt(0) - 'a', word.charAt(1) - '0', least));
    }

    private void readBuyer(String wish) {
        int b = buyers;
        add(new Row("buyer", b));
        add(new Row("set", 10, b, 1, 0));
        if (!wish.equals("-")) {
            readText(wish);
            add(new Row("wish", wish.split("\\|").length, b));
        }
    }

    private void readText(String text) {
        for (char sign : text.toCharArray()) {
            add(new Row("say", signs + 1, (int) sign));
        }
    }

    private void readCall(String line, String[] words) {
        int count = words.length - 3;
        Method method = FACE.get(words[0]);
        if (method == null || count != method.getParameterCount() || !words[words.length - 2].equals("->")) {
            throw new IllegalArgumentException(title + ": no such row: " + line);
        }
        Object[] numbers = new Object[count];
        for (int i = 0; i < count; i++) {
            numbers[i] = number(words[1 + i]);
        }
        add(new Row(words[0], number(words[words.length - 1]), numbers));
    }

    private static int number(String word) {
        Integer known = WORDS.get(word);
        return known != null ? known : Integer.parseInt(word);
    }

    private void add(Row row) {
        rows.add(row);
        if (row.changes()) {
            switch (row.name) {
                case "lot": lots++; break;
                case "buyer": buyers++; break;
                case "say": signs++; break;
                case "wipe": case "wish": signs = 0; break;
                default: break;
            }
        }
    }

    private void play() {
        FallClocks x = new FallClocks();
        String before = null;
        for (int i = 0; i < rows.size(); i++) {
            Row row = rows.get(i);
            int got = row.callOn(x);
            checks++;
            if (got != row.due) {
                complain(title + ": " + row + ", row " + (i + 1) + ", answered " + got + ", due is " + row.due);
                return;
            }
            if (row.changes()) {
                before = null;
            } else {
                before = before == null ? pictureBehind(i) : before;
                if (!pictureBehind(i + 1).equals(before)) {
                    complain(title + ": " + row + ", row " + (i + 1) + ", changed something");
                }
            }
        }
    }

    /** All that can be asked of an object for which the first rows, so many, have been called. */
    private String pictureBehind(int count) {
        FallClocks x = new FallClocks();
        for (int i = 0; i < count; i++) {
            rows.get(i).callOn(x);
        }
        Picture picture = new Picture(x);
        String all = picture.take();
        if (count + picture.calls > MOST_CALLS) {
            throw new IllegalStateException(title + ": an object is used for too many calls");
        }
        return all;
    }

    /** It asks all that changes nothing first, and then what is told by changing it. */
    private static final class Picture {
        private final FallClocks x;
        private final StringBuilder all = new StringBuilder();
        private int calls;

        Picture(FallClocks x) {
            this.x = x;
        }

        private int note(int answer) {
            calls++;
            all.append(answer).append(' ');
            return answer;
        }

        String take() {
            int lots = note(x.told(0));
            int buyers = note(x.told(1));
            int days = note(x.told(3));
            note(x.told(2));
            note(x.told(4));
            int fault = note(x.fault());
            for (int lot = 0; lot < lots; lot++) {
                lookAtLot(lot);
            }
            for (int b = 0; b < buyers; b++) {
                lookAtBuyer(b, (1 << lots) - 1, days);
            }
            lookAtAll(lots);
            for (int lot = 0; lot < lots; lot++) {
                note(x.price(lot, 0));
            }
            for (int b = 0; b < buyers; b++) {
                note(x.leave(b, 0));
                for (int what = 0; what < 3; what++) {
                    note(x.set(b, what, 0));
                }
            }
            if (fault == FallClocks.NONE && buyers > 0) {
                lookAtWish(0, note(x.wish(0)));
            }
            note(x.unlearn());
            return all.toString();
        }

        private void lookAtLot(int lot) {
            note(x.order(lot));
            note(x.sold(lot, 0));
            note(x.sold(lot, 1));
            note(x.sold(lot, 2));
            note(x.raised(10 + lot));
        }

        private void lookAtBuyer(int b, int heap, int days) {
            for (int what = 0; what < 4; what++) {
                note(x.day(b, what));
            }
            note(x.worth(b, heap));
            note(x.why(b, heap));
            note(x.dealt(b));
            note(x.likes(b, 0));
            note(x.likes(b, 1));
            note(x.gain(b));
            note(x.cut(b, 0));
            note(x.learn(b, 7, 0));
            note(x.learn(b, 7, 1));
            for (int d = 0; d < days; d++) {
                note(x.learn(b, 7, 10 + d));
            }
            lookAtWish(b, note(x.told(10 + b)));
        }

        private void lookAtWish(int b, int alternatives) {
            for (int i = 0; i < alternatives; i++) {
                for (int what = 0; what < 6; what++) {
                    note(x.alternative(b, i, what));
                }
            }
        }

        private void lookAtAll(int lots) {
            note(x.dealt(-1));
            note(x.missing());
            note(x.raised(0));
            note(x.raised(1));
            note(x.orders(0));
            note(x.orders(1));
            for (int place = 0; place < lots; place++) {
                note(x.orders(10 + place));
                note(x.orders(20 + place));
            }
            note(x.broken(0));
            note(x.broken(1));
        }
    }
}
