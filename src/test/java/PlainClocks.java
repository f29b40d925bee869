import java.util.ArrayList;
import java.util.Arrays;
import java.util.List;
import java.util.regex.Pattern;

/**
 * The document done as slowly and plainly as it reads: every TICK, every HEAP, every
 * ORDER, every set is gone through. AgainstPlainTest holds FallClocks against it.
 */
final class PlainClocks {
    private static final int UNKNOWN = -1, OUTSIDE = -2, STATE = -3, FULL = -4, NO = -5, NONE = -6;
    private static final int LOST = -1000000000;

    private static final class Lot {
        int sort, clock, least, price;
    }

    private static final class Alternative {
        int number;
        final int[] need = new int[5];
        boolean out;
    }

    private static final class Buyer {
        int coin = 200, cut = 10, mark = 50;
        List<Alternative> wish = new ArrayList<>();
    }

    /** What a DAY leaves behind. */
    private static final class Evening {
        int[] owner, price, tick, heap, coin;
    }

    private final List<Lot> lots = new ArrayList<>();
    private final List<Buyer> buyers = new ArrayList<>();
    private final List<Integer> order = new ArrayList<>();
    private final List<Integer> lessons = new ArrayList<>();
    private String signs = "";
    private int top = 100;

    int lot(int sort, int clock, int least) {
        if (sort < 0 || sort > 4 || clock < 0 || clock > 2 || least < 0 || least > 200) return OUTSIDE;
        if (lots.size() == 8) return FULL;
        Lot l = new Lot();
        l.sort = sort;
        l.clock = clock;
        l.least = least;
        lots.add(l);
        order.add(lots.size() - 1);
        return lots.size() - 1;
    }

    int buyer() {
        if (buyers.size() == 6) return FULL;
        buyers.add(new Buyer());
        return buyers.size() - 1;
    }

    int set(int buyer, int what, int v) {
        if (noBuyer(buyer)) return UNKNOWN;
        if (what < 0 || what > 2 || v < 0 || v > (what == 0 ? 1000 : 99)) return OUTSIDE;
        Buyer b = buyers.get(buyer);
        int was = what == 0 ? b.coin : what == 1 ? b.cut : b.mark;
        if (what == 0) b.coin = v;
        if (what == 1) b.cut = v;
        if (what == 2) b.mark = v;
        return was;
    }

    int say(int sign) {
        if (sign < 33 || sign > 126) return OUTSIDE;
        if (signs.length() == 50) return FULL;
        signs += (char) sign;
        return signs.length();
    }

    int wipe() {
        int n = signs.length();
        signs = "";
        return n;
    }

    int fault() {
        for (int i = 1; i <= signs.length(); i++) {
            if (!canBegin(signs.substring(0, i))) return i - 1;
        }
        return isWish(signs) ? NONE : signs.length();
    }

    int wish(int buyer) {
        if (noBuyer(buyer)) return UNKNOWN;
        if (!isWish(signs)) return NO;
        List<Alternative> read = new ArrayList<>();
        for (String text : signs.split("\\|")) read.add(alternativeOf(text));
        buyers.get(buyer).wish = read;
        signs = "";
        return read.size();
    }

    int alternative(int buyer, int i, int what) {
        if (noBuyer(buyer) || i < 0 || i >= buyers.get(buyer).wish.size()) return UNKNOWN;
        if (what < 0 || what > 5) return OUTSIDE;
        Alternative a = buyers.get(buyer).wish.get(i);
        return what == 0 ? a.number : a.need[what - 1];
    }

    int leave(int buyer, int set) {
        if (noBuyer(buyer)) return UNKNOWN;
        List<Alternative> wish = buyers.get(buyer).wish;
        if (set < 0 || set >= 1 << wish.size()) return OUTSIDE;
        int was = 0;
        for (int i = 0; i < wish.size(); i++) {
            if (wish.get(i).out) was |= 1 << i;
            wish.get(i).out = (set >> i & 1) == 1;
        }
        return was;
    }

    int worth(int buyer, int heap) {
        if (noBuyer(buyer)) return UNKNOWN;
        if (heap < 0 || heap >= 1 << lots.size()) return OUTSIDE;
        return value(buyer, heap);
    }

    int why(int buyer, int heap) {
        if (noBuyer(buyer)) return UNKNOWN;
        if (heap < 0 || heap >= 1 << lots.size()) return OUTSIDE;
        List<Alternative> wish = buyers.get(buyer).wish;
        for (int i = 0; i < wish.size(); i++) {
            if (isMet(wish.get(i), heap) && wish.get(i).number == value(buyer, heap)) return i;
        }
        return NONE;
    }

    int top(int v) {
        if (v < 1 || v > 200) return OUTSIDE;
        int was = top;
        top = v;
        return was;
    }

    int swap(int a, int b) {
        if (noLot(a) || noLot(b)) return UNKNOWN;
        int atA = order.indexOf(a);
        int atB = order.indexOf(b);
        order.set(atA, b);
        order.set(atB, a);
        return 1;
    }

    int order(int place) {
        return place < 0 || place >= order.size() ? NONE : order.get(place);
    }

    int sold(int lot, int what) {
        if (noLot(lot)) return UNKNOWN;
        if (what < 0 || what > 2) return OUTSIDE;
        Evening e = evening(order, top);
        return what == 0 ? e.owner[lot] : what == 1 ? e.price[lot] : e.tick[lot];
    }

    int day(int buyer, int what) {
        if (noBuyer(buyer)) return UNKNOWN;
        if (what < 0 || what > 3) return OUTSIDE;
        Evening e = evening(order, top);
        if (what == 0) return e.heap[buyer];
        if (what == 1) return value(buyer, e.heap[buyer]);
        return what == 2 ? buyers.get(buyer).coin - e.coin[buyer] : e.coin[buyer];
    }

    int dealt(int buyer) {
        if (buyer != -1 && noBuyer(buyer)) return UNKNOWN;
        int[][] table = values();
        int all = (1 << lots.size()) - 1;
        int[][] known = new int[buyers.size() + 1][all + 1];
        for (int[] row : known) Arrays.fill(row, -1);
        int most = mostFrom(0, all, table, known);
        if (buyer == -1) return most;
        int rest = all;
        for (int b = 0; ; b++) {
            int heap = 0;
            while ((heap & ~rest) != 0
                    || table[b][heap] + mostFrom(b + 1, rest & ~heap, table, known) != mostFrom(b, rest, table, known)) {
                heap++;
            }
            if (b == buyer) return heap;
            rest &= ~heap;
        }
    }

    int price(int lot, int v) {
        if (noLot(lot)) return UNKNOWN;
        if (v < 0 || v > 1000) return OUTSIDE;
        int was = lots.get(lot).price;
        lots.get(lot).price = v;
        return was;
    }

    int likes(int buyer, int what) {
        if (noBuyer(buyer)) return UNKNOWN;
        if (what < 0 || what > 1) return OUTSIDE;
        int heap = liked(values()[buyer], pricesTold());
        return what == 0 ? heap : value(buyer, heap) - cost(heap, pricesTold());
    }

    int missing() {
        return lack(values(), pricesTold(), dealt(-1));
    }

    int raised(int what) {
        if (what >= 10 && what <= 17 && noLot(what - 10)) return UNKNOWN;
        if (what != 0 && what != 1 && (what < 10 || what > 17)) return OUTSIDE;
        int[] p = new int[lots.size()];
        int rounds = raise(p);
        return what == 0 ? rounds : what == 1 ? lack(values(), p, dealt(-1)) : p[what - 10];
    }

    int orders(int what) {
        if (!(what >= 0 && what <= 1 || what >= 10 && what <= 15 || what >= 20 && what <= 25)) return OUTSIDE;
        if (lots.size() > 6) return STATE;
        List<List<Integer>> all = new ArrayList<>();
        spell(new ArrayList<>(), all);
        List<Integer> best = null;
        List<Integer> worst = null;
        int most = 0;
        int least = 0;
        for (List<Integer> o : all) {
            Evening e = evening(o, top);
            int together = 0;
            for (int b = 0; b < buyers.size(); b++) together += value(b, e.heap[b]);
            if (best == null || together > most) {
                most = together;
                best = o;
            }
            if (worst == null || together < least) {
                least = together;
                worst = o;
            }
        }
        if (what < 10) return what == 0 ? most : least;
        List<Integer> asked = what < 20 ? best : worst;
        int place = what % 10;
        return place < asked.size() ? asked.get(place) : NONE;
    }

    int gain(int buyer) {
        return noBuyer(buyer) ? LOST - 1 : gained(buyer, top);
    }

    int cut(int buyer, int what) {
        if (noBuyer(buyer)) return LOST - 1;
        if (what < 0 || what > 1) return LOST - 2;
        int kept = buyers.get(buyer).cut;
        int best = -1;
        int most = 0;
        for (int c = 0; c < 100; c++) {
            buyers.get(buyer).cut = c;
            int g = gained(buyer, top);
            if (best < 0 || g > most) {
                most = g;
                best = c;
            }
        }
        buyers.get(buyer).cut = kept;
        return what == 0 ? best : most;
    }

    int broken(int what) {
        if (what < 0 || what > 1) return OUTSIDE;
        List<Alternative> all = new ArrayList<>();
        for (Buyer b : buyers) all.addAll(b.wish);
        if (all.size() > 8) return STATE;
        boolean[] were = new boolean[all.size()];
        for (int i = 0; i < were.length; i++) were[i] = all.get(i).out;
        int found = -1;
        for (int set = 0; set < 1 << all.size(); set++) {
            boolean isNew = true;
            for (int i = 0; i < were.length; i++) {
                isNew &= (set >> i & 1) == 0 || !were[i];
                all.get(i).out = were[i] || (set >> i & 1) == 1;
            }
            if (isNew && (found < 0 || Integer.bitCount(set) < Integer.bitCount(found))) {
                int[] p = new int[lots.size()];
                raise(p);
                if (lack(values(), p, dealt(-1)) == 0) found = set;
            }
        }
        for (int i = 0; i < were.length; i++) all.get(i).out = were[i];
        return what == 0 ? found : Integer.bitCount(found);
    }

    int lesson(int t) {
        if (t < 1 || t > 200) return OUTSIDE;
        if (lessons.size() == 8) return FULL;
        lessons.add(t);
        return lessons.size();
    }

    int unlearn() {
        int n = lessons.size();
        lessons.clear();
        return n;
    }

    int learn(int buyer, int c, int what) {
        if (noBuyer(buyer)) return LOST - 1;
        if (c < 0 || c > 79 || what < 0 || what > 17 || what > 2 && what < 10) return LOST - 2;
        int kept = buyers.get(buyer).cut;
        int[][] brings = new int[3][lessons.size()];
        for (int k = 0; k < 3; k++) {
            buyers.get(buyer).cut = c + 10 * k;
            for (int d = 0; d < lessons.size(); d++) brings[k][d] = gained(buyer, lessons.get(d));
        }
        buyers.get(buyer).cut = kept;
        int brought = 0;
        int[] cuts = new int[lessons.size()];
        for (int d = 0; d < lessons.size(); d++) {
            int best = d == 0 ? 0 : bestUpTo(brings, d);
            cuts[d] = c + 10 * best;
            brought += brings[best][d];
        }
        int alone = Arrays.stream(brings[bestUpTo(brings, lessons.size())]).sum();
        if (what >= 10) return what - 10 < cuts.length ? cuts[what - 10] : NONE;
        return what == 0 ? brought : what == 1 ? alone : alone - brought;
    }

    int told(int what) {
        if (what == 0) return lots.size();
        if (what == 1) return buyers.size();
        if (what == 2) return signs.length();
        if (what == 3) return lessons.size();
        if (what == 4) return top;
        if (what < 10 || what > 15) return OUTSIDE;
        return noBuyer(what - 10) ? 0 : buyers.get(what - 10).wish.size();
    }

    private boolean noBuyer(int b) {
        return b < 0 || b >= buyers.size();
    }

    private boolean noLot(int l) {
        return l < 0 || l >= lots.size();
    }

    private static final String NEEDS = "([1-9]a)?([1-9]b)?([1-9]c)?([1-9]d)?([1-9]e)?";
    private static final Pattern ALTERNATIVE = Pattern.compile("(?=[1-9])" + NEEDS + "=[0-9]{1,3}");
    private static final Pattern WISH =
            Pattern.compile(ALTERNATIVE.pattern() + "(\\|" + ALTERNATIVE.pattern() + "){0,5}");

    private static boolean isWish(String text) {
        return WISH.matcher(text).matches();
    }

    /** Whether some WISH, however long, begins so: then the matcher wants more, or has all. */
    private static boolean canBegin(String text) {
        java.util.regex.Matcher m = WISH.matcher(text);
        return m.matches() || endings(text);
    }

    private static boolean endings(String text) {
        for (String more : new String[] {"1a=1", "a=1", "b=1", "c=1", "d=1", "e=1", "=1", "1"}) {
            if (isWish(text + more)) return true;
        }
        return false;
    }

    private static Alternative alternativeOf(String text) {
        Alternative a = new Alternative();
        String[] sides = text.split("=");
        for (int i = 0; i < sides[0].length(); i += 2) {
            a.need[sides[0].charAt(i + 1) - 'a'] = sides[0].charAt(i) - '0';
        }
        a.number = Integer.parseInt(sides[1]);
        return a;
    }

    private boolean isMet(Alternative a, int heap) {
        int[] has = new int[5];
        for (int l = 0; l < lots.size(); l++) {
            if ((heap >> l & 1) == 1) has[lots.get(l).sort]++;
        }
        boolean isMet = !a.out;
        for (int s = 0; s < 5; s++) isMet &= has[s] >= a.need[s];
        return isMet;
    }

    private int value(int buyer, int heap) {
        int most = 0;
        for (Alternative a : buyers.get(buyer).wish) {
            if (isMet(a, heap)) most = Math.max(most, a.number);
        }
        return most;
    }

    private int[][] values() {
        int[][] table = new int[buyers.size()][1 << lots.size()];
        for (int b = 0; b < table.length; b++) {
            for (int h = 0; h < table[b].length; h++) table[b][h] = value(b, h);
        }
        return table;
    }

    private Evening evening(List<Integer> by, int itsTop) {
        int[][] table = values();
        Evening e = new Evening();
        e.owner = new int[lots.size()];
        e.price = new int[lots.size()];
        e.tick = new int[lots.size()];
        e.heap = new int[buyers.size()];
        e.coin = new int[buyers.size()];
        for (int b = 0; b < buyers.size(); b++) e.coin[b] = buyers.get(b).coin;
        List<List<Integer>> queues = new ArrayList<>();
        for (int c = 0; c < 3; c++) {
            List<Integer> queue = new ArrayList<>();
            for (int l : by) if (lots.get(l).clock == c) queue.add(l);
            queues.add(queue);
        }
        int[] came = new int[3];
        for (int tick = 0; !(queues.get(0).isEmpty() && queues.get(1).isEmpty() && queues.get(2).isEmpty()); tick++) {
            for (int c = 0; c < 3; c++) {
                if (queues.get(c).isEmpty() || came[c] > tick) continue;
                int l = queues.get(c).get(0);
                if (look(e, l, itsTop - (tick - came[c]), table)) {
                    e.tick[l] = tick;
                    queues.get(c).remove(0);
                    came[c] = tick + 1;
                }
            }
        }
        return e;
    }

    /** One look at a needle: whether the LOT is gone then. */
    private boolean look(Evening e, int l, int needle, int[][] table) {
        int first = -1;
        for (int b = 0; b < buyers.size(); b++) {
            int bid = (table[b][e.heap[b] | 1 << l] - table[b][e.heap[b]]) * (100 - buyers.get(b).cut) / 100;
            boolean presses = needle >= lots.get(l).least && bid >= 1 && bid >= needle && e.coin[b] >= needle;
            if (presses && (first < 0 || buyers.get(b).mark < buyers.get(first).mark)) first = b;
        }
        if (first >= 0) {
            e.owner[l] = first;
            e.price[l] = needle;
            e.heap[first] |= 1 << l;
            e.coin[first] -= needle;
            return true;
        }
        e.owner[l] = NONE;
        e.price[l] = NONE;
        return needle <= lots.get(l).least;
    }

    private int mostFrom(int b, int rest, int[][] table, int[][] known) {
        if (b == buyers.size()) return 0;
        if (known[b][rest] >= 0) return known[b][rest];
        int most = 0;
        for (int h = 0; h <= rest; h++) {
            if ((h & ~rest) == 0) most = Math.max(most, table[b][h] + mostFrom(b + 1, rest & ~h, table, known));
        }
        known[b][rest] = most;
        return most;
    }

    private int[] pricesTold() {
        int[] p = new int[lots.size()];
        for (int l = 0; l < p.length; l++) p[l] = lots.get(l).price;
        return p;
    }

    private static int cost(int heap, int[] p) {
        int all = 0;
        for (int l = 0; l < p.length; l++) if ((heap >> l & 1) == 1) all += p[l];
        return all;
    }

    private static int liked(int[] worths, int[] p) {
        int best = 0;
        for (int h = 1; h < worths.length; h++) {
            if (worths[h] - cost(h, p) > worths[best] - cost(best, p)) best = h;
        }
        return best;
    }

    private int lack(int[][] table, int[] p, int most) {
        int all = -most;
        for (int[] worths : table) {
            int h = liked(worths, p);
            all += worths[h] - cost(h, p);
        }
        for (int v : p) all += v;
        return all;
    }

    private int raise(int[] p) {
        int[][] table = values();
        int most = dealt(-1);
        int rounds = 0;
        while (rounds < 300 && lack(table, p, most) != 0) {
            int[] times = new int[p.length];
            for (int[] worths : table) {
                int h = liked(worths, p);
                for (int l = 0; l < p.length; l++) times[l] += h >> l & 1;
            }
            boolean hasRisen = false;
            for (int l = 0; l < p.length; l++) {
                if (times[l] >= 2) {
                    p[l]++;
                    hasRisen = true;
                }
            }
            if (!hasRisen) return rounds;
            rounds++;
        }
        return rounds;
    }

    private void spell(List<Integer> begun, List<List<Integer>> all) {
        if (begun.size() == lots.size()) {
            all.add(new ArrayList<>(begun));
            return;
        }
        for (int l = 0; l < lots.size(); l++) {
            if (!begun.contains(l)) {
                begun.add(l);
                spell(begun, all);
                begun.remove(begun.size() - 1);
            }
        }
    }

    private int gained(int buyer, int itsTop) {
        Evening e = evening(order, itsTop);
        return value(buyer, e.heap[buyer]) - (buyers.get(buyer).coin - e.coin[buyer]);
    }

    private static int bestUpTo(int[][] brings, int days) {
        int best = 0;
        int[] sums = new int[3];
        for (int k = 0; k < 3; k++) {
            for (int d = 0; d < days; d++) sums[k] += brings[k][d];
            if (sums[k] > sums[best]) best = k;
        }
        return best;
    }
}
