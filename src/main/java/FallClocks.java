/** Clocks that fall: lots sold by falling needles, and what might have been instead. */
public final class FallClocks {
    public static final int UNKNOWN = -1, OUTSIDE = -2, STATE = -3, FULL = -4, NO = -5, NONE = -6;
    public static final int LOST = -1000000000;

    private static final int MOST_LOTS = 8;
    private static final int MOST_SORTS = 5;
    private static final int MOST_CLOCKS = 3;
    private static final int MOST_LEAST = 200;
    private static final int MOST_BUYERS = 6;
    private static final int MOST_ALTERNATIVES = 6;
    private static final int MOST_SIGNS = 50;
    private static final int MOST_COIN = 1000;
    private static final int MOST_CUT = 99;
    private static final int MOST_MARK = 99;
    private static final int MOST_TOP = 200;
    private static final int MOST_PRICE = 1000;
    private static final int MOST_ROUNDS = 300;
    private static final int MOST_CARTS = 6;
    private static final int MOST_BREAKABLE = 8;
    private static final int MOST_LESSONS = 8;
    private static final int MOST_FIRST_CUT = 79;

    private final Hall hall = new Hall();
    private final Signs signs = new Signs();
    private final Day course = new Day(hall);
    private final Deal deal = new Deal(hall);
    private final Prices asked = new Prices(hall);
    private final Prices grown = new Prices(hall);
    private final Carts carts = new Carts(hall, course);
    private final Break breach = new Break(hall, deal, grown);
    private final Lessons lessons = new Lessons(course);

    public FallClocks() {
    }

    // ---- 1 lots, wishes

    public int lot(int sort, int clock, int least) {
        if (isNot(sort, 0, MOST_SORTS - 1) || isNot(clock, 0, MOST_CLOCKS - 1) || isNot(least, 0, MOST_LEAST)) {
            return OUTSIDE;
        }
        if (hall.lots >= MOST_LOTS) {
            return FULL;
        }
        forget();
        return hall.addLot(sort, clock, least);
    }

    public int buyer() {
        if (hall.count >= MOST_BUYERS) {
            return FULL;
        }
        forget();
        hall.count++;
        return hall.count - 1;
    }

    public int set(int buyer, int what, int v) {
        if (!hall.hasBuyer(buyer)) {
            return UNKNOWN;
        }
        if (isNot(what, 0, 2) || isNot(v, 0, Buyer.most(what))) {
            return OUTSIDE;
        }
        forget();
        return hall.buyers[buyer].put(what, v);
    }

    public int say(int sign) {
        if (isNot(sign, 33, 126)) {
            return OUTSIDE;
        }
        if (signs.count >= MOST_SIGNS) {
            return FULL;
        }
        signs.codes[signs.count] = sign;
        signs.count++;
        return signs.count;
    }

    public int wipe() {
        int were = signs.count;
        signs.count = 0;
        return were;
    }

    public int fault() {
        return signs.firstWrong();
    }

    public int wish(int buyer) {
        if (!hall.hasBuyer(buyer)) {
            return UNKNOWN;
        }
        if (signs.firstWrong() != NONE) {
            return NO;
        }
        forget();
        hall.buyers[buyer].take(signs);
        signs.count = 0;
        return hall.buyers[buyer].alternatives;
    }

    public int alternative(int buyer, int i, int what) {
        if (!hall.hasBuyer(buyer) || isNot(i, 0, hall.buyers[buyer].alternatives - 1)) {
            return UNKNOWN;
        }
        if (isNot(what, 0, MOST_SORTS)) {
            return OUTSIDE;
        }
        Buyer b = hall.buyers[buyer];
        return what == 0 ? b.numbers[i] : Counts.of(b.needs[i], what - 1);
    }

    public int leave(int buyer, int set) {
        if (!hall.hasBuyer(buyer)) {
            return UNKNOWN;
        }
        Buyer b = hall.buyers[buyer];
        if (isNot(set, 0, (1 << b.alternatives) - 1)) {
            return OUTSIDE;
        }
        forget();
        int were = b.left;
        b.left = set;
        return were;
    }

    public int worth(int buyer, int heap) {
        if (!hall.hasBuyer(buyer)) {
            return UNKNOWN;
        }
        if (isNot(heap, 0, hall.allLots())) {
            return OUTSIDE;
        }
        return hall.buyers[buyer].worthOf(hall.countsOf(heap));
    }

    public int why(int buyer, int heap) {
        if (!hall.hasBuyer(buyer)) {
            return UNKNOWN;
        }
        if (isNot(heap, 0, hall.allLots())) {
            return OUTSIDE;
        }
        Buyer b = hall.buyers[buyer];
        int have = hall.countsOf(heap);
        return b.firstMet(have, b.worthOf(have));
    }

    // ---- 2 days

    public int top(int v) {
        if (isNot(v, 1, MOST_TOP)) {
            return OUTSIDE;
        }
        forget();
        int was = hall.top;
        hall.top = v;
        return was;
    }

    public int swap(int a, int b) {
        if (!hall.hasLot(a) || !hall.hasLot(b)) {
            return UNKNOWN;
        }
        hall.changePlaces(a, b);
        return 1;
    }

    public int order(int place) {
        return hall.hasLot(place) ? hall.order[place] : NONE;
    }

    public int sold(int lot, int what) {
        if (!hall.hasLot(lot)) {
            return UNKNOWN;
        }
        if (isNot(what, 0, 2)) {
            return OUTSIDE;
        }
        course.runAsItIs();
        if (what == 0) {
            return course.owner[lot];
        }
        return what == 1 ? course.price[lot] : course.tick[lot];
    }

    public int day(int buyer, int what) {
        if (!hall.hasBuyer(buyer)) {
            return UNKNOWN;
        }
        if (isNot(what, 0, 3)) {
            return OUTSIDE;
        }
        course.runAsItIs();
        switch (what) {
            case 0:
                return course.heap[buyer];
            case 1:
                return course.worth[buyer];
            case 2:
                return course.paid[buyer];
            default:
                return course.coin[buyer];
        }
    }

    // ---- 3 what might have been

    public int dealt(int buyer) {
        if (buyer != -1 && !hall.hasBuyer(buyer)) {
            return UNKNOWN;
        }
        int most = deal.mostWorth();
        if (buyer == -1) {
            return most;
        }
        deal.share();
        return deal.heaps[buyer];
    }

    public int price(int lot, int v) {
        if (!hall.hasLot(lot)) {
            return UNKNOWN;
        }
        if (isNot(v, 0, MOST_PRICE)) {
            return OUTSIDE;
        }
        int was = asked.price[lot];
        asked.price[lot] = v;
        return was;
    }

    public int likes(int buyer, int what) {
        if (!hall.hasBuyer(buyer)) {
            return UNKNOWN;
        }
        if (isNot(what, 0, 1)) {
            return OUTSIDE;
        }
        asked.look();
        return what == 0 ? asked.heap[buyer] : asked.gain[buyer];
    }

    public int missing() {
        asked.look();
        return asked.lack(deal.mostWorth());
    }

    public int raised(int what) {
        if (!isNot(what, 10, 17) && !hall.hasLot(what - 10)) {
            return UNKNOWN;
        }
        if (isNot(what, 0, 1) && isNot(what, 10, 17)) {
            return OUTSIDE;
        }
        grown.raise(deal.mostWorth());
        if (what == 0) {
            return grown.rounds;
        }
        return what == 1 ? grown.missing : grown.price[what - 10];
    }

    // ---- 4 orders, cuts

    public int orders(int what) {
        if (isNot(what, 0, 1) && isNot(what, 10, 15) && isNot(what, 20, 25)) {
            return OUTSIDE;
        }
        if (hall.lots > MOST_CARTS) {
            return STATE;
        }
        carts.compare();
        if (what < 10) {
            return what == 0 ? carts.most : carts.fewest;
        }
        int place = what < 20 ? what - 10 : what - 20;
        if (place >= hall.lots) {
            return NONE;
        }
        return what < 20 ? carts.best[place] : carts.worst[place];
    }

    public int gain(int buyer) {
        if (!hall.hasBuyer(buyer)) {
            return LOST + UNKNOWN;
        }
        course.runAsItIs();
        return course.gainOf(buyer);
    }

    public int cut(int buyer, int what) {
        if (!hall.hasBuyer(buyer)) {
            return LOST + UNKNOWN;
        }
        if (isNot(what, 0, 1)) {
            return LOST + OUTSIDE;
        }
        int bestCut = 0;
        int most = course.gainWith(buyer, 0, hall.top);
        for (int c = 1; c <= MOST_CUT; c++) {
            int gain = course.gainWith(buyer, c, hall.top);
            if (gain > most) {
                most = gain;
                bestCut = c;
            }
        }
        return what == 0 ? bestCut : most;
    }

    public int broken(int what) {
        if (isNot(what, 0, 1)) {
            return OUTSIDE;
        }
        if (hall.alternatives() > MOST_BREAKABLE) {
            return STATE;
        }
        breach.find();
        return what == 0 ? breach.set : Integer.bitCount(breach.set);
    }

    public int lesson(int top) {
        if (isNot(top, 1, MOST_TOP)) {
            return OUTSIDE;
        }
        if (lessons.count >= MOST_LESSONS) {
            return FULL;
        }
        lessons.tops[lessons.count] = top;
        lessons.count++;
        return lessons.count;
    }

    public int unlearn() {
        int were = lessons.count;
        lessons.count = 0;
        return were;
    }

    public int learn(int buyer, int c, int what) {
        if (!hall.hasBuyer(buyer)) {
            return LOST + UNKNOWN;
        }
        if (isNot(c, 0, MOST_FIRST_CUT) || (isNot(what, 0, 2) && isNot(what, 10, 17))) {
            return LOST + OUTSIDE;
        }
        if (what >= 10 && what - 10 >= lessons.count) {
            return NONE;
        }
        lessons.follow(buyer, c);
        if (what >= 10) {
            return lessons.chosen[what - 10];
        }
        int alone = lessons.total[lessons.leader()];
        if (what == 0) {
            return lessons.brought;
        }
        return what == 1 ? alone : alone - lessons.brought;
    }

    public int told(int what) {
        switch (what) {
            case 0:
                return hall.lots;
            case 1:
                return hall.count;
            case 2:
                return signs.count;
            case 3:
                return lessons.count;
            case 4:
                return hall.top;
            default:
                return isNot(what, 10, 15) ? OUTSIDE : hall.buyers[what - 10].alternatives;
        }
    }

    private static boolean isNot(int v, int from, int to) {
        return v < from || v > to;
    }

    /** The two dearest answers are kept till something changes that they hang on. */
    private void forget() {
        carts.known = false;
        breach.known = false;
    }

    /** How many of each SORT, in five bits a SORT, so that one subtraction compares all SORTS. */
    private static final class Counts {
        private static final int WIDTH = 5;
        static final int FIELD = 15;
        static final int GUARDS = 0x1084210;

        static int one(int sort) {
            return 1 << WIDTH * sort;
        }

        static int of(int counts, int sort) {
            return counts >> WIDTH * sort & FIELD;
        }

        /** The guard bit above a count is lost just where the need is greater. */
        static boolean cover(int have, int need) {
            return ((have | GUARDS) - need & GUARDS) == GUARDS;
        }
    }

    /** The signs said so far, and what they read as. */
    private static final class Signs {
        private static final int COUNT = 0;
        private static final int LETTER = 1;
        private static final int COUNT_OR_EQUALS = 2;
        private static final int DIGIT = 3;
        private static final int DIGIT_OR_BAR = 4;

        final int[] codes = new int[MOST_SIGNS];
        int count;
        final int[] numbers = new int[MOST_ALTERNATIVES];
        final int[] needs = new int[MOST_ALTERNATIVES];
        int last;
        private int awaited;
        private int many;
        private int nextSort;
        private int digits;

        /** The place of THE FAULT, or NONE: then numbers and needs, up to last, are the WISH. */
        int firstWrong() {
            begin(0);
            for (int i = 0; i < count; i++) {
                if (!takes(codes[i])) {
                    return i;
                }
            }
            return awaited == DIGIT_OR_BAR ? NONE : count;
        }

        private void begin(int alternative) {
            last = alternative;
            numbers[alternative] = 0;
            needs[alternative] = 0;
            nextSort = 0;
            digits = 0;
            awaited = COUNT;
        }

        private boolean takes(int code) {
            switch (awaited) {
                case COUNT:
                    return takesCount(code);
                case LETTER:
                    return takesLetter(code);
                case COUNT_OR_EQUALS:
                    return code == '=' ? takesEquals() : takesCount(code);
                case DIGIT:
                    return takesDigit(code);
                default:
                    return code == '|' ? takesBar() : takesDigit(code);
            }
        }

        /** Behind the last SORT's letter no count can stand: no letter could follow it. */
        private boolean takesCount(int code) {
            if (code < '1' || code > '9' || nextSort >= MOST_SORTS) {
                return false;
            }
            many = code - '0';
            awaited = LETTER;
            return true;
        }

        private boolean takesLetter(int code) {
            int sort = code - 'a';
            if (sort < nextSort || sort >= MOST_SORTS) {
                return false;
            }
            needs[last] += many * Counts.one(sort);
            nextSort = sort + 1;
            awaited = COUNT_OR_EQUALS;
            return true;
        }

        private boolean takesEquals() {
            awaited = DIGIT;
            return true;
        }

        private boolean takesDigit(int code) {
            if (code < '0' || code > '9' || digits >= 3) {
                return false;
            }
            numbers[last] = numbers[last] * 10 + code - '0';
            digits++;
            awaited = DIGIT_OR_BAR;
            return true;
        }

        private boolean takesBar() {
            if (last >= MOST_ALTERNATIVES - 1) {
                return false;
            }
            begin(last + 1);
            return true;
        }
    }

    /** A BUYER with his WISH. */
    private static final class Buyer {
        int coin = 200;
        int cut = 10;
        int mark = 50;
        int alternatives;
        final int[] numbers = new int[MOST_ALTERNATIVES];
        final int[] needs = new int[MOST_ALTERNATIVES];
        int left;
        /** What BREAK leaves out besides, while it looks; 0 else. */
        int trial;

        static int most(int what) {
            if (what == 0) {
                return MOST_COIN;
            }
            return what == 1 ? MOST_CUT : MOST_MARK;
        }

        int put(int what, int v) {
            int was;
            if (what == 0) {
                was = coin;
                coin = v;
            } else if (what == 1) {
                was = cut;
                cut = v;
            } else {
                was = mark;
                mark = v;
            }
            return was;
        }

        void take(Signs signs) {
            alternatives = signs.last + 1;
            System.arraycopy(signs.numbers, 0, numbers, 0, alternatives);
            System.arraycopy(signs.needs, 0, needs, 0, alternatives);
            left = 0;
        }

        boolean isThere(int i) {
            return ((left | trial) >> i & 1) == 0;
        }

        /** Days ask this most of all, so it calls nothing. */
        int worthOf(int have) {
            int gone = left | trial;
            int guarded = have | Counts.GUARDS;
            int most = 0;
            for (int i = 0; i < alternatives; i++) {
                boolean isMet = (guarded - needs[i] & Counts.GUARDS) == Counts.GUARDS;
                if (isMet && numbers[i] > most && (gone >> i & 1) == 0) {
                    most = numbers[i];
                }
            }
            return most;
        }

        /** The first ALTERNATIVE that is MET and has this number, or NONE. */
        int firstMet(int have, int number) {
            for (int i = 0; i < alternatives; i++) {
                if (numbers[i] == number && isThere(i) && Counts.cover(have, needs[i])) {
                    return i;
                }
            }
            return NONE;
        }
    }

    /** The LOTS, their ORDER, the BUYERS and TOP. */
    private static final class Hall {
        int lots;
        /** One LOT of its SORT, as Counts. */
        final int[] unit = new int[MOST_LOTS];
        final int[] clock = new int[MOST_LOTS];
        final int[] least = new int[MOST_LOTS];
        final int[] order = new int[MOST_LOTS];
        /** LOTS by their numbers, to pick from where no PRICE matters. */
        final int[] byNumber = new int[MOST_LOTS];
        int count;
        final Buyer[] buyers = new Buyer[MOST_BUYERS];
        int top = 100;

        Hall() {
            for (int b = 0; b < MOST_BUYERS; b++) {
                buyers[b] = new Buyer();
            }
        }

        boolean hasLot(int lot) {
            return lot >= 0 && lot < lots;
        }

        boolean hasBuyer(int buyer) {
            return buyer >= 0 && buyer < count;
        }

        int addLot(int itsSort, int itsClock, int itsLeast) {
            unit[lots] = Counts.one(itsSort);
            clock[lots] = itsClock;
            least[lots] = itsLeast;
            order[lots] = lots;
            byNumber[lots] = lots;
            lots++;
            return lots - 1;
        }

        void changePlaces(int a, int b) {
            for (int place = 0; place < lots; place++) {
                if (order[place] == a) {
                    order[place] = b;
                } else if (order[place] == b) {
                    order[place] = a;
                }
            }
        }

        int allLots() {
            return (1 << lots) - 1;
        }

        int countsOf(int heap) {
            int counts = 0;
            for (int lot = 0; lot < lots; lot++) {
                if ((heap >> lot & 1) != 0) {
                    counts += unit[lot];
                }
            }
            return counts;
        }

        int alternatives() {
            int all = 0;
            for (int b = 0; b < count; b++) {
                all += buyers[b].alternatives;
            }
            return all;
        }

        /** Just so many LOTS of the rest as are needed, the first by a row of all LOTS; NONE: too few. */
        int pick(int need, int[] row, int rest) {
            int heap = 0;
            int open = need;
            for (int k = 0; k < lots && open != 0; k++) {
                int lot = row[k];
                if ((rest >> lot & 1) != 0 && (open & Counts.FIELD * unit[lot]) != 0) {
                    open -= unit[lot];
                    heap |= 1 << lot;
                }
            }
            return open == 0 ? heap : NONE;
        }
    }

    /**
     * A DAY, gone through from one LOT's end to the next: between two ends no BID
     * and no COIN changes, so it is known where each needle will be pressed.
     */
    private static final class Day {
        private final Hall hall;
        final int[] owner = new int[MOST_LOTS];
        final int[] price = new int[MOST_LOTS];
        final int[] tick = new int[MOST_LOTS];
        final int[] heap = new int[MOST_BUYERS];
        final int[] worth = new int[MOST_BUYERS];
        final int[] paid = new int[MOST_BUYERS];
        final int[] coin = new int[MOST_BUYERS];
        private final int[] counts = new int[MOST_BUYERS];
        /** What of a hundred a BUYER's CUT leaves him to bid. */
        private final int[] keeps = new int[MOST_BUYERS];
        private final int[] place = new int[MOST_CLOCKS];
        private final int[] came = new int[MOST_CLOCKS];
        /** The first TICK in which a CLOCK has not been looked at since something changed. */
        private final int[] from = new int[MOST_CLOCKS];
        /** The needle at which a CLOCK's LOT ends, if nothing changes ahead of that. */
        private final int[] end = new int[MOST_CLOCKS];
        /** By CLOCKS and BUYERS: the highest needle at which he would PRESS; -1: at none. */
        private final int[][] reach = new int[MOST_CLOCKS][MOST_BUYERS];
        private int[] order;
        private int top;

        Day(Hall hall) {
            this.hall = hall;
            this.order = hall.order;
        }

        void runAsItIs() {
            open(hall.order, hall.top);
            run();
        }

        int gainWith(int buyer, int otherCut, int otherTop) {
            open(hall.order, otherTop);
            keeps[buyer] = 100 - otherCut;
            run();
            return gainOf(buyer);
        }

        int gainOf(int buyer) {
            return worth[buyer] - paid[buyer];
        }

        int worthTogether() {
            int all = 0;
            for (int b = 0; b < hall.count; b++) {
                all += worth[b];
            }
            return all;
        }

        void open(int[] itsOrder, int itsTop) {
            order = itsOrder;
            top = itsTop;
            for (int b = 0; b < hall.count; b++) {
                heap[b] = 0;
                worth[b] = 0;
                paid[b] = 0;
                coin[b] = hall.buyers[b].coin;
                counts[b] = 0;
                keeps[b] = 100 - hall.buyers[b].cut;
            }
        }

        void run() {
            for (int c = 0; c < MOST_CLOCKS; c++) {
                bringOn(c, 0, 0);
            }
            for (int n = 0; n < hall.lots; n++) {
                int c = nextToEnd();
                if (c < 0) {
                    return;
                }
                int lot = order[place[c]];
                int now = endTick(c);
                owner[lot] = presser(c, hall.least[lot]);
                price[lot] = owner[lot] < 0 ? NONE : end[c];
                tick[lot] = now;
                if (owner[lot] >= 0) {
                    hand(owner[lot], lot, end[c]);
                }
                lookFrom(c, now);
                bringOn(c, place[c] + 1, now + 1);
            }
        }

        private void bringOn(int c, int firstPlace, int now) {
            int p = firstPlace;
            while (p < hall.lots && hall.clock[order[p]] != c) {
                p++;
            }
            place[c] = p;
            came[c] = now;
            from[c] = now;
            for (int b = 0; b < hall.count; b++) {
                weigh(c, b);
            }
        }

        private void weigh(int c, int b) {
            if (place[c] < hall.lots) {
                int more = hall.buyers[b].worthOf(counts[b] + hall.unit[order[place[c]]]) - worth[b];
                int bid = more * keeps[b] / 100;
                reach[c][b] = bid < 1 ? -1 : Math.min(bid, coin[b]);
            }
        }

        /** The CLOCK whose LOT ends first; of several in one TICK the first. */
        private int nextToEnd() {
            int first = NONE;
            for (int c = 0; c < MOST_CLOCKS; c++) {
                if (place[c] < hall.lots) {
                    int stands = top - (from[c] - came[c]);
                    end[c] = Math.min(stands, highest(c, hall.least[order[place[c]]]));
                    if (first < 0 || endTick(c) < endTick(first)) {
                        first = c;
                    }
                }
            }
            return first;
        }

        private int endTick(int c) {
            return came[c] + top - end[c];
        }

        private int highest(int c, int least) {
            int most = least;
            for (int b = 0; b < hall.count; b++) {
                most = Math.max(most, reach[c][b]);
            }
            return most;
        }

        private int presser(int c, int least) {
            int first = NONE;
            for (int b = 0; b < hall.count && end[c] >= least; b++) {
                boolean isAhead = first < 0 || hall.buyers[b].mark < hall.buyers[first].mark;
                if (isAhead && reach[c][b] >= end[c]) {
                    first = b;
                }
            }
            return first;
        }

        private void hand(int b, int lot, int v) {
            heap[b] |= 1 << lot;
            counts[b] += hall.unit[lot];
            worth[b] = hall.buyers[b].worthOf(counts[b]);
            paid[b] += v;
            coin[b] -= v;
            for (int c = 0; c < MOST_CLOCKS; c++) {
                weigh(c, b);
            }
        }

        /** CLOCKS ahead of this one have had their look in this TICK; those behind it have not. */
        private void lookFrom(int c, int now) {
            for (int k = 0; k < MOST_CLOCKS; k++) {
                from[k] = Math.max(from[k], k < c ? now + 1 : now);
            }
        }
    }

    /**
     * DEALT. LOTS of one SORT are worth the same to everybody, so it is enough to
     * look at how many of each SORT are left to a BUYER and all behind him.
     */
    private static final class Deal {
        /** Eight LOTS in five SORTS leave at most 3 * 3 * 3 * 2 * 2 different counts. */
        private static final int MOST_STATES = 108;

        private final Hall hall;
        final int[] heaps = new int[MOST_BUYERS];
        private final int[] step = new int[MOST_SORTS];
        private final int[] counts = new int[MOST_STATES];
        private final int[][] best = new int[MOST_BUYERS + 1][MOST_STATES];
        private int states;

        Deal(Hall hall) {
            this.hall = hall;
        }

        int mostWorth() {
            layOut();
            for (int s = 0; s < states; s++) {
                best[hall.count][s] = 0;
            }
            for (int b = hall.count - 1; b >= 0; b--) {
                System.arraycopy(best[b + 1], 0, best[b], 0, states);
                Buyer buyer = hall.buyers[b];
                for (int i = 0; i < buyer.alternatives; i++) {
                    if (buyer.isThere(i)) {
                        serve(b, buyer.numbers[i], buyer.needs[i]);
                    }
                }
            }
            return best[0][states - 1];
        }

        /** HEAPS behind mostWorth: each BUYER in turn has the least that leaves enough to the others. */
        void share() {
            int rest = hall.allLots();
            int state = states - 1;
            for (int b = 0; b < hall.count; b++) {
                heaps[b] = leastHeap(b, rest, state);
                rest &= ~heaps[b];
                state -= distance(hall.countsOf(heaps[b]));
            }
        }

        private void layOut() {
            int all = hall.countsOf(hall.allLots());
            counts[0] = 0;
            states = 1;
            for (int sort = 0; sort < MOST_SORTS; sort++) {
                step[sort] = states;
                states *= Counts.of(all, sort) + 1;
                for (int s = step[sort]; s < states; s++) {
                    counts[s] = counts[s - step[sort]] + Counts.one(sort);
                }
            }
        }

        private int distance(int need) {
            int steps = 0;
            for (int sort = 0; sort < MOST_SORTS; sort++) {
                steps += Counts.of(need, sort) * step[sort];
            }
            return steps;
        }

        private void serve(int b, int number, int need) {
            int back = distance(need);
            for (int s = back; s < states; s++) {
                if (Counts.cover(counts[s], need)) {
                    best[b][s] = Math.max(best[b][s], number + best[b + 1][s - back]);
                }
            }
        }

        /** The least HEAP has nothing that its ALTERNATIVE does not need, and the first LOTS of each SORT. */
        private int leastHeap(int b, int rest, int state) {
            int most = best[b][state];
            if (best[b + 1][state] == most) {
                return 0;
            }
            int least = rest;
            Buyer buyer = hall.buyers[b];
            for (int i = 0; i < buyer.alternatives; i++) {
                if (buyer.isThere(i) && Counts.cover(counts[state], buyer.needs[i])
                        && buyer.numbers[i] + best[b + 1][state - distance(buyer.needs[i])] == most) {
                    int heap = hall.pick(buyer.needs[i], hall.byNumber, rest);
                    least = heap < 0 ? least : Math.min(least, heap);
                }
            }
            return least;
        }
    }

    /** PRICES, what BUYERS LIKE at them, and how they are RAISED. */
    private static final class Prices {
        private final Hall hall;
        final int[] price = new int[MOST_LOTS];
        final int[] heap = new int[MOST_BUYERS];
        final int[] gain = new int[MOST_BUYERS];
        int rounds;
        int missing;
        private final int[] cheapest = new int[MOST_LOTS];

        Prices(Hall hall) {
            this.hall = hall;
        }

        void look() {
            sortByPrice();
            for (int b = 0; b < hall.count; b++) {
                like(b, hall.buyers[b]);
            }
        }

        int lack(int mostWorth) {
            int all = -mostWorth;
            for (int b = 0; b < hall.count; b++) {
                all += gain[b];
            }
            for (int lot = 0; lot < hall.lots; lot++) {
                all += price[lot];
            }
            return all;
        }

        void raise(int mostWorth) {
            for (int lot = 0; lot < hall.lots; lot++) {
                price[lot] = 0;
            }
            for (int n = 0; n <= MOST_ROUNDS; n++) {
                rounds = n;
                look();
                missing = lack(mostWorth);
                int wanted = wantedTwice();
                if (missing == 0 || wanted == 0 || n == MOST_ROUNDS) {
                    return;
                }
                for (int lot = 0; lot < hall.lots; lot++) {
                    price[lot] += wanted >> lot & 1;
                }
            }
        }

        private int wantedTwice() {
            int once = 0;
            int twice = 0;
            for (int b = 0; b < hall.count; b++) {
                twice |= once & heap[b];
                once |= heap[b];
            }
            return twice;
        }

        /** Of equal PRICES the lower number comes first, so that what is picked is the least HEAP too. */
        private void sortByPrice() {
            for (int lot = 0; lot < hall.lots; lot++) {
                int k = lot;
                while (k > 0 && price[cheapest[k - 1]] > price[lot]) {
                    cheapest[k] = cheapest[k - 1];
                    k--;
                }
                cheapest[k] = lot;
            }
        }

        /** What a BUYER LIKES best meets an ALTERNATIVE by the cheapest LOTS and has no other, or is empty. */
        private void like(int b, Buyer buyer) {
            int liked = 0;
            int most = 0;
            for (int i = 0; i < buyer.alternatives; i++) {
                if (buyer.isThere(i) && buyer.numbers[i] >= most) {
                    int picked = hall.pick(buyer.needs[i], cheapest, hall.allLots());
                    int rest = picked < 0 ? -1 : buyer.numbers[i] - costOf(picked);
                    if (rest > most || (rest == most && picked < liked)) {
                        liked = picked;
                        most = rest;
                    }
                }
            }
            heap[b] = liked;
            gain[b] = most;
        }

        private int costOf(int picked) {
            int cost = 0;
            for (int lot = 0; lot < hall.lots; lot++) {
                if ((picked >> lot & 1) != 0) {
                    cost += price[lot];
                }
            }
            return cost;
        }
    }

    /** ORDERS: every ORDER of the LOTS is tried, from the first by numbers on. */
    private static final class Carts {
        private static final int MOST_TRIES = 720;

        private final Hall hall;
        private final Day course;
        final int[] best = new int[MOST_CARTS];
        final int[] worst = new int[MOST_CARTS];
        private final int[] tried = new int[MOST_CARTS];
        int most;
        int fewest;
        boolean known;

        Carts(Hall hall, Day course) {
            this.hall = hall;
            this.course = course;
        }

        void compare() {
            if (known || hall.lots > MOST_CARTS) {
                return;
            }
            System.arraycopy(hall.byNumber, 0, tried, 0, hall.lots);
            boolean isMore = true;
            for (int n = 0; n < MOST_TRIES && isMore; n++) {
                course.open(tried, hall.top);
                course.run();
                note(course.worthTogether(), n == 0);
                isMore = stepOn();
            }
            known = true;
        }

        private void note(int worth, boolean isFirst) {
            if (isFirst || worth > most) {
                most = worth;
                System.arraycopy(tried, 0, best, 0, hall.lots);
            }
            if (isFirst || worth < fewest) {
                fewest = worth;
                System.arraycopy(tried, 0, worst, 0, hall.lots);
            }
        }

        /** To the next ORDER by numbers; false: there is none. */
        private boolean stepOn() {
            int pivot = hall.lots - 2;
            while (pivot >= 0 && tried[pivot] > tried[pivot + 1]) {
                pivot--;
            }
            if (pivot < 0) {
                return false;
            }
            int k = hall.lots - 1;
            while (k > pivot && tried[k] < tried[pivot]) {
                k--;
            }
            exchange(pivot, k);
            for (int low = pivot + 1, high = hall.lots - 1; low < high; low++, high--) {
                exchange(low, high);
            }
            return true;
        }

        private void exchange(int i, int k) {
            int kept = tried[i];
            tried[i] = tried[k];
            tried[k] = kept;
        }
    }

    /** BREAK: the sets of ALTERNATIVES are tried by how many they are, then as numbers. */
    private static final class Break {
        private final Hall hall;
        private final Deal deal;
        private final Prices grown;
        int set;
        boolean known;

        Break(Hall hall, Deal deal, Prices grown) {
            this.hall = hall;
            this.deal = deal;
            this.grown = grown;
        }

        void find() {
            if (known) {
                return;
            }
            int all = Math.min(hall.alternatives(), MOST_BREAKABLE);
            int gone = leftAlready();
            set = NONE;
            for (int size = 0; size <= all && set < 0; size++) {
                for (int s = 0; s < 1 << all && set < 0; s++) {
                    if (Integer.bitCount(s) == size && (s & gone) == 0 && endsFair(s)) {
                        set = s;
                    }
                }
            }
            leaveOut(0);
            known = true;
        }

        private boolean endsFair(int s) {
            leaveOut(s);
            grown.raise(deal.mostWorth());
            return grown.missing == 0;
        }

        private int leftAlready() {
            int bits = 0;
            int first = 0;
            for (int b = 0; b < hall.count; b++) {
                bits |= hall.buyers[b].left << first;
                first += hall.buyers[b].alternatives;
            }
            return bits;
        }

        private void leaveOut(int s) {
            int rest = s;
            for (int b = 0; b < hall.count; b++) {
                Buyer buyer = hall.buyers[b];
                buyer.trial = rest & (1 << buyer.alternatives) - 1;
                rest >>= buyer.alternatives;
            }
        }
    }

    /** LEARN: the DAYS' TOPS, and how it goes with who takes what would have been best so far. */
    private static final class Lessons {
        private static final int CHOICES = 3;

        private final Day course;
        final int[] tops = new int[MOST_LESSONS];
        int count;
        final int[] chosen = new int[MOST_LESSONS];
        final int[] total = new int[CHOICES];
        int brought;

        Lessons(Day course) {
            this.course = course;
        }

        void follow(int buyer, int c) {
            brought = 0;
            for (int k = 0; k < CHOICES; k++) {
                total[k] = 0;
            }
            for (int d = 0; d < count; d++) {
                int taken = leader();
                int before = total[taken];
                for (int k = 0; k < CHOICES; k++) {
                    total[k] += course.gainWith(buyer, c + 10 * k, tops[d]);
                }
                chosen[d] = c + 10 * taken;
                brought += total[taken] - before;
            }
        }

        int leader() {
            int first = 0;
            for (int k = 1; k < CHOICES; k++) {
                if (total[k] > total[first]) {
                    first = k;
                }
            }
            return first;
        }
    }
}
