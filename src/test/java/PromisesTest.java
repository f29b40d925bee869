/** Each promise of the document by calls whose answers were worked out by hand. */
public final class PromisesTest {
    private static final int UNKNOWN = -1, OUTSIDE = -2, STATE = -3, FULL = -4, NO = -5, NONE = -6;
    private static final int LOST = -1000000000;
    private static final int LOW = Integer.MIN_VALUE, HIGH = Integer.MAX_VALUE;

    private static int promise;
    private static int checks;
    private static int wrong;

    public static void main(String[] args) {
        newObject();
        lots();
        buyers();
        sets();
        says();
        wipes();
        faults();
        wishes();
        alternatives();
        leaves();
        worths();
        whys();
        tops();
        swaps();
        orderPlaces();
        soldSimply();
        soldToWhom();
        soldOnSeveralClocks();
        days();
        deals();
        prices();
        liking();
        missings();
        raisings();
        cartOrders();
        cartOrdersOfSix();
        gains();
        cuts();
        breaks();
        breaksWithSomeLeftOut();
        lessons();
        unlearning();
        learning();
        tellings();
        System.out.println("PromisesTest: " + checks + " checks, " + wrong + " wrong");
        if (wrong != 0) {
            System.exit(1);
        }
    }

    private static void due(String call, int got, int want) {
        checks++;
        if (got != want) {
            wrong++;
            System.out.println("promise " + promise + ": " + call + " answered " + got + ", due is " + want);
        }
    }

    private static void say(FallClocks x, String text) {
        for (char sign : text.toCharArray()) {
            x.say(sign);
        }
    }

    private static int wish(FallClocks x, int buyer, String text) {
        x.wipe();
        say(x, text);
        return x.wish(buyer);
    }

    /** LOTS by sort and clock, as in "a0 b1"; BUYERS with these WISHES and no CUT. */
    private static FallClocks hall(String lots, String... wishes) {
        FallClocks x = new FallClocks();
        for (String lot : lots.split(" ")) {
            x.lot(lot.charAt(0) - 'a', lot.charAt(1) - '0', 0);
        }
        for (int b = 0; b < wishes.length; b++) {
            x.buyer();
            x.set(b, 1, 0);
            if (!wishes[b].isEmpty()) {
                due("wish " + wishes[b], wish(x, b, wishes[b]), wishes[b].split("\\|").length);
            }
        }
        return x;
    }

    private static void newObject() {
        promise = 1;
        FallClocks x = new FallClocks();
        due("UNKNOWN", FallClocks.UNKNOWN, -1);
        due("OUTSIDE", FallClocks.OUTSIDE, -2);
        due("STATE", FallClocks.STATE, -3);
        due("FULL", FallClocks.FULL, -4);
        due("NO", FallClocks.NO, -5);
        due("NONE", FallClocks.NONE, -6);
        due("LOST", FallClocks.LOST, -1000000000);
        due("LOTS", x.told(0), 0);
        due("BUYERS", x.told(1), 0);
        due("signs", x.told(2), 0);
        due("DAYS", x.told(3), 0);
        due("TOP", x.told(4), 100);
        due("order(0)", x.order(0), NONE);
        due("sold(0, 0)", x.sold(0, 0), UNKNOWN);
        due("day(0, 0)", x.day(0, 0), UNKNOWN);
        due("dealt(-1)", x.dealt(-1), 0);
        due("missing()", x.missing(), 0);
        due("orders(0)", x.orders(0), 0);
        due("orders(1)", x.orders(1), 0);
        due("orders(10)", x.orders(10), NONE);
        due("orders(20)", x.orders(20), NONE);
        due("broken(1)", x.broken(1), 0);
    }

    private static void lots() {
        promise = 2;
        FallClocks x = new FallClocks();
        due("first", x.lot(0, 0, 0), 0);
        due("greatest of all", x.lot(4, 2, 200), 1);
        int[][] outside = {{-1, 0, 0}, {5, 0, 0}, {0, -1, 0}, {0, 3, 0}, {0, 0, -1}, {0, 0, 201},
            {LOW, 0, 0}, {HIGH, 0, 0}, {0, LOW, 0}, {0, HIGH, 0}, {0, 0, LOW}, {0, 0, HIGH}};
        for (int[] o : outside) {
            due("lot " + o[0] + " " + o[1] + " " + o[2], x.lot(o[0], o[1], o[2]), OUTSIDE);
        }
        due("still two", x.told(0), 2);
        x.swap(0, 1);
        due("third", x.lot(2, 1, 100), 2);
        due("it is the last of the ORDER", x.order(2), 2);
        due("the ORDER ahead of it stays", x.order(0), 1);
        for (int i = 3; i < 8; i++) {
            due("lot " + i, x.lot(0, 0, 0), i);
        }
        due("ninth", x.lot(0, 0, 0), FULL);
        due("OUTSIDE is ahead of FULL", x.lot(5, 0, 0), OUTSIDE);
        due("eight", x.told(0), 8);
    }

    private static void buyers() {
        promise = 3;
        FallClocks x = new FallClocks();
        for (int i = 0; i < 6; i++) {
            due("buyer " + i, x.buyer(), i);
        }
        due("seventh", x.buyer(), FULL);
        due("six", x.told(1), 6);
    }

    private static void sets() {
        promise = 4;
        FallClocks x = new FallClocks();
        due("none yet", x.set(0, 0, 0), UNKNOWN);
        x.buyer();
        x.buyer();
        due("COIN at first", x.set(0, 0, 1000), 200);
        due("CUT at first", x.set(0, 1, 99), 10);
        due("MARK at first", x.set(0, 2, 99), 50);
        due("COIN too much", x.set(0, 0, 1001), OUTSIDE);
        due("CUT too much", x.set(0, 1, 100), OUTSIDE);
        due("MARK too much", x.set(0, 2, 100), OUTSIDE);
        for (int what = 0; what < 3; what++) {
            due("too little", x.set(0, what, -1), OUTSIDE);
            due("lowest", x.set(0, what, LOW), OUTSIDE);
            due("highest", x.set(0, what, HIGH), OUTSIDE);
        }
        due("COIN as it was", x.set(0, 0, 0), 1000);
        due("CUT as it was", x.set(0, 1, 0), 99);
        due("MARK as it was", x.set(0, 2, 0), 99);
        due("the other's own", x.set(1, 0, 7), 200);
        due("what -1", x.set(0, -1, 0), OUTSIDE);
        due("what 3", x.set(0, 3, 0), OUTSIDE);
        due("buyer -1", x.set(-1, 0, 0), UNKNOWN);
        due("UNKNOWN is ahead of OUTSIDE", x.set(2, 3, -1), UNKNOWN);
    }

    private static void says() {
        promise = 5;
        FallClocks x = new FallClocks();
        due("32", x.say(32), OUTSIDE);
        due("127", x.say(127), OUTSIDE);
        due("lowest", x.say(LOW), OUTSIDE);
        due("highest", x.say(HIGH), OUTSIDE);
        due("33", x.say(33), 1);
        due("126", x.say(126), 2);
        for (int i = 3; i <= 50; i++) {
            due("sign " + i, x.say('1'), i);
        }
        due("51st", x.say('1'), FULL);
        due("OUTSIDE is ahead of FULL", x.say(32), OUTSIDE);
        due("signs", x.told(2), 50);
    }

    private static void wipes() {
        promise = 6;
        FallClocks x = new FallClocks();
        due("nothing", x.wipe(), 0);
        say(x, "1a=");
        due("three", x.wipe(), 3);
        due("none left", x.told(2), 0);
        due("again", x.wipe(), 0);
        due("from the start", x.say('1'), 1);
    }

    private static void faults() {
        promise = 7;
        String long14 = "1a1b1c1d1e=999";
        String[] right = {"1a=5", "9e=000", "1a=55", "1a=555", "2a1c=30|1b=012", "1a3e=1", long14,
            "1a=1|1a=2|1a=3|1a=4|1a=5|1a=6", "1a=6|1a=6", long14 + "|" + long14 + "|" + long14 + "|1b=7"};
        for (String text : right) {
            due(text, faultOf(text), NONE);
        }
        String[] wanting = {"", "1", "1a", "1a1", "1a=", "1a=5|", "1a=5|2", "1a=5|2b", "1a=5|2b=", "1d1e",
            long14 + "|" + long14 + "|" + long14 + "|1a1b1", long14 + "|" + long14 + "|" + long14 + "|1a=5|"};
        for (String text : wanting) {
            due("more must come: " + text, faultOf(text), text.length());
        }
        String[] wrongAt = {"0:0", "0:a", "0:=", "0:|", "0:0a=5", "0:!", "1:1f", "1:1A", "1:12a=5", "1:1=", "1:1|",
            "1:1`", "2:1a|", "2:1aa", "2:1a0b", "2:1e1", "2:1e1e=5", "3:1a1a=5", "3:1b1a=5", "3:1a==", "3:1a=|",
            "3:1a=a", "3:1a=:", "4:1a=5a", "4:1a=5=", "6:1a=5555", "5:1a=5||", "5:1a=5|=", "6:1a=5|3f=4",
            "4:1a1b0=5", "29:1a=1|1a=2|1a=3|1a=4|1a=5|1a=6|", "29:1a=1|1a=2|1a=3|1a=4|1a=5|1a=6|1a=7"};
        for (String row : wrongAt) {
            int colon = row.indexOf(':');
            due(row, faultOf(row.substring(colon + 1)), Integer.parseInt(row.substring(0, colon)));
        }
        FallClocks x = new FallClocks();
        say(x, "1a=5");
        x.fault();
        due("it changes nothing", x.told(2), 4);
    }

    private static int faultOf(String text) {
        FallClocks x = new FallClocks();
        say(x, text);
        return x.fault();
    }

    private static void wishes() {
        promise = 8;
        FallClocks x = new FallClocks();
        due("no BUYER, no signs", x.wish(0), UNKNOWN);
        x.buyer();
        due("no signs", x.wish(0), NO);
        say(x, "1a=5|");
        due("more must come", x.wish(0), NO);
        due("signs stay", x.told(2), 5);
        due("UNKNOWN is ahead of NO", x.wish(1), UNKNOWN);
        due("buyer -1", x.wish(-1), UNKNOWN);
        say(x, "2b1c=70");
        due("two", x.wish(0), 2);
        due("signs are empty then", x.told(2), 0);
        due("it has two", x.told(10), 2);
        x.leave(0, 3);
        say(x, "1e=9");
        due("another", x.wish(0), 1);
        due("the one before is gone", x.alternative(0, 1, 0), UNKNOWN);
        due("nothing is left out", x.leave(0, 0), 0);
        due("its number", x.alternative(0, 0, 0), 9);
        due("nothing of the one before", x.alternative(0, 0, 1), 0);
        say(x, "2");
        due("a fault keeps the WISH", x.wish(0), NO);
        due("its number still", x.alternative(0, 0, 0), 9);
        due("six", wish(x, 0, "1a=1|1a=2|1a=3|1a=4|1a=5|1a=6"), 6);
    }

    private static void alternatives() {
        promise = 9;
        FallClocks x = new FallClocks();
        due("none there", x.alternative(0, 0, 0), UNKNOWN);
        x.buyer();
        due("no WISH", x.alternative(0, 0, 0), UNKNOWN);
        wish(x, 0, "9a8b7c6d5e=012|3c=000|1a=999");
        int[][] want = {{12, 9, 8, 7, 6, 5}, {0, 0, 0, 3, 0, 0}, {999, 1, 0, 0, 0, 0}};
        for (int i = 0; i < 3; i++) {
            for (int what = 0; what < 6; what++) {
                due("alternative " + i + " " + what, x.alternative(0, i, what), want[i][what]);
            }
        }
        due("what 6", x.alternative(0, 0, 6), OUTSIDE);
        due("what -1", x.alternative(0, 0, -1), OUTSIDE);
        due("alternative -1", x.alternative(0, -1, 0), UNKNOWN);
        due("UNKNOWN is ahead of OUTSIDE", x.alternative(0, 3, 6), UNKNOWN);
        due("buyer 1", x.alternative(1, 0, 0), UNKNOWN);
        x.leave(0, 1);
        due("one left out is told all the same", x.alternative(0, 0, 1), 9);
    }

    private static void leaves() {
        promise = 10;
        FallClocks x = hall("a0 b0", "1a=30|1b=20", "1a=5");
        due("none at first", x.leave(0, 2), 0);
        due("a", x.worth(0, 3), 30);
        due("which they were", x.leave(0, 3), 2);
        due("nothing", x.worth(0, 3), 0);
        due("the other keeps his", x.worth(1, 3), 5);
        due("bits of none", x.leave(0, 4), OUTSIDE);
        due("bits below 0", x.leave(0, -1), OUTSIDE);
        due("highest", x.leave(1, HIGH), OUTSIDE);
        due("unchanged by that", x.leave(0, 1), 3);
        due("b", x.worth(0, 3), 20);
        due("nobody", x.leave(2, 99), UNKNOWN);
        x.buyer();
        due("without a WISH", x.leave(2, 0), 0);
        due("without a WISH, a bit", x.leave(2, 1), OUTSIDE);
    }

    private static void worths() {
        promise = 11;
        FallClocks x = hall("a0 a1 c2 b0", "2a1c=30|1b=12|3a=99|1a=0", "");
        due("empty", x.worth(0, 0), 0);
        due("two of a", x.worth(0, 3), 0);
        due("all of it", x.worth(0, 7), 30);
        due("more than that", x.worth(0, 15), 30);
        due("b", x.worth(0, 8), 12);
        due("b and c", x.worth(0, 12), 12);
        due("no WISH", x.worth(1, 15), 0);
        due("bits of no LOTS", x.worth(0, 16), OUTSIDE);
        due("below 0", x.worth(0, -1), OUTSIDE);
        due("lowest", x.worth(0, LOW), OUTSIDE);
        due("UNKNOWN is ahead of OUTSIDE", x.worth(2, 16), UNKNOWN);
        due("buyer -1", x.worth(-1, 0), UNKNOWN);
        FallClocks all = hall("a0 a0 a0 a0 a0 a0 a0 a0", "8a=100|9a=200|7a=50");
        due("eight", all.worth(0, 255), 100);
        due("seven", all.worth(0, 254), 50);
        due("six", all.worth(0, 126), 0);
        due("the ninth's bit", all.worth(0, 256), OUTSIDE);
    }

    private static void whys() {
        promise = 12;
        FallClocks x = hall("a0 b0 c0", "1a=10|1b=20|1a1b=20|1c=0", "");
        due("empty", x.why(0, 0), NONE);
        due("a", x.why(0, 1), 0);
        due("b", x.why(0, 2), 1);
        due("the first such", x.why(0, 3), 1);
        due("0 by one that is met", x.why(0, 4), 3);
        due("a before 0", x.why(0, 5), 0);
        x.leave(0, 2);
        due("one is left out", x.why(0, 3), 2);
        x.leave(0, 8);
        due("0 without any", x.why(0, 4), NONE);
        due("no WISH", x.why(1, 7), NONE);
        due("bits of no LOTS", x.why(0, 8), OUTSIDE);
        due("below 0", x.why(0, -1), OUTSIDE);
        due("UNKNOWN is ahead of OUTSIDE", x.why(2, 8), UNKNOWN);
    }

    private static void tops() {
        promise = 13;
        FallClocks x = hall("a0", "1a=50");
        due("at first", x.top(1), 100);
        due("lowest", x.top(200), 1);
        due("0", x.top(0), OUTSIDE);
        due("201", x.top(201), OUTSIDE);
        due("least int", x.top(LOW), OUTSIDE);
        due("greatest int", x.top(HIGH), OUTSIDE);
        due("stays", x.told(4), 200);
        due("from 200 down to 50", x.sold(0, 2), 150);
    }

    private static void swaps() {
        promise = 14;
        FallClocks x = hall("a0 b0 c0");
        due("0 and 2", x.swap(0, 2), 1);
        due("2 is first", x.order(0), 2);
        due("1 stays", x.order(1), 1);
        due("0 is last", x.order(2), 0);
        due("LOTS, not places", x.swap(2, 1), 1);
        due("1 is first", x.order(0), 1);
        due("2 behind it", x.order(1), 2);
        due("with itself", x.swap(1, 1), 1);
        due("1 is first still", x.order(0), 1);
        due("no LOT 3", x.swap(0, 3), UNKNOWN);
        due("no LOT -1", x.swap(-1, 0), UNKNOWN);
        due("lowest", x.swap(0, LOW), UNKNOWN);
        due("0 is last still", x.order(2), 0);
    }

    private static void orderPlaces() {
        promise = 15;
        FallClocks x = hall("a0 b1");
        due("place 0", x.order(0), 0);
        due("place 1", x.order(1), 1);
        due("place 2", x.order(2), NONE);
        due("place -1", x.order(-1), NONE);
        due("lowest", x.order(LOW), NONE);
        due("highest", x.order(HIGH), NONE);
        due("place 8", x.order(8), NONE);
    }

    private static void sold(FallClocks x, int lot, int buyer, int price, int tick) {
        due("LOT " + lot + ", BUYER", x.sold(lot, 0), buyer);
        due("LOT " + lot + ", price", x.sold(lot, 1), price);
        due("LOT " + lot + ", TICK", x.sold(lot, 2), tick);
    }

    private static void soldSimply() {
        promise = 16;
        FallClocks x = new FallClocks();
        x.lot(0, 0, 45);
        x.buyer();
        wish(x, 0, "1a=50");
        sold(x, 0, 0, 45, 55);
        wish(x, 0, "1a=49");
        sold(x, 0, NONE, NONE, 55);
        x.top(44);
        sold(x, 0, NONE, NONE, 0);
        x.top(45);
        wish(x, 0, "1a=99");
        sold(x, 0, 0, 45, 0);
        due("quotient is cut: 89", x.top(200), 45);
        sold(x, 0, 0, 89, 111);
        due("what 3", x.sold(0, 3), OUTSIDE);
        due("what -1", x.sold(0, -1), OUTSIDE);
        due("UNKNOWN is ahead of OUTSIDE", x.sold(1, 3), UNKNOWN);
        due("LOT -1", x.sold(-1, 0), UNKNOWN);
        FallClocks y = hall("a0 a0", "1a=99");
        y.set(0, 1, 99);
        sold(y, 0, NONE, NONE, 100);
        sold(y, 1, NONE, NONE, 201);
        wish(y, 0, "1a=100");
        sold(y, 0, 0, 1, 99);
        y.set(0, 0, 0);
        sold(y, 0, 0, 0, 100);
        sold(y, 1, NONE, NONE, 201);
    }

    private static void soldToWhom() {
        promise = 16;
        FallClocks x = hall("a0 a0", "1a=40", "1a=60", "1a=40");
        sold(x, 0, 1, 60, 40);
        sold(x, 1, 0, 40, 101);
        x.set(2, 2, 49);
        sold(x, 1, 2, 40, 101);
        x.set(0, 2, 49);
        sold(x, 1, 0, 40, 101);
        x.set(0, 2, 99);
        x.set(1, 2, 99);
        x.top(30);
        sold(x, 0, 2, 30, 0);
        sold(x, 1, 0, 30, 1);
        x.top(100);
        x.set(0, 0, 39);
        x.set(1, 0, 0);
        sold(x, 0, 2, 40, 60);
        sold(x, 1, 0, 39, 122);
        x.swap(0, 1);
        sold(x, 1, 2, 40, 60);
        sold(x, 0, 0, 39, 122);
    }

    private static void soldOnSeveralClocks() {
        promise = 16;
        // the CLOCK ahead sells first in a TICK; then the COIN is gone
        FallClocks coin = hall("a1 b0", "1a=50|1b=50|1a1b=100");
        coin.set(0, 0, 50);
        sold(coin, 1, 0, 50, 50);
        sold(coin, 0, 0, 0, 100);
        // b is wanted only with a: a CLOCK behind a's is looked at in the same TICK ..
        FallClocks behind = hall("a0 b1", "1a=10|1a1b=90");
        sold(behind, 0, 0, 10, 90);
        sold(behind, 1, 0, 10, 90);
        // .. and one ahead of a's in the next one
        FallClocks ahead = hall("a1 b0", "1a=10|1a1b=90");
        sold(ahead, 0, 0, 10, 90);
        sold(ahead, 1, 0, 9, 91);
        // the third CLOCK, and LOTS behind one another on each
        FallClocks three = hall("c2 c2 b1 a0 b1", "1a=80", "1b=70|2b=95", "1c=60|2c=90");
        sold(three, 3, 0, 80, 20);
        sold(three, 2, 1, 70, 30);
        sold(three, 0, 2, 60, 40);
        sold(three, 4, 1, 25, 106);
        sold(three, 1, 2, 30, 111);
        three.swap(0, 1);
        sold(three, 1, 2, 60, 40);
        sold(three, 0, 2, 30, 111);
    }

    private static void days() {
        promise = 17;
        FallClocks x = hall("a0 a0 b0", "1a=50|2a=90", "1b=30", "");
        x.set(0, 0, 60);
        due("HEAP", x.day(0, 0), 3);
        due("WORTH", x.day(0, 1), 90);
        due("paid 50 and the 10 that are left", x.day(0, 2), 60);
        due("COIN left", x.day(0, 3), 0);
        due("the other's HEAP", x.day(1, 0), 4);
        due("the other's WORTH", x.day(1, 1), 30);
        due("the other paid", x.day(1, 2), 30);
        due("the other's COIN", x.day(1, 3), 170);
        due("the third's HEAP", x.day(2, 0), 0);
        due("the third's COIN", x.day(2, 3), 200);
        due("COIN is as at first again", x.day(0, 3), 0);
        due("nothing of it is kept", x.set(0, 0, 60), 60);
        due("what 4", x.day(0, 4), OUTSIDE);
        due("what -1", x.day(0, -1), OUTSIDE);
        due("UNKNOWN is ahead of OUTSIDE", x.day(3, 4), UNKNOWN);
        due("buyer -1", x.day(-1, 0), UNKNOWN);
        x.leave(0, 2);
        due("one is left out", x.day(0, 0), 1);
    }

    private static void deals() {
        promise = 18;
        FallClocks x = hall("a0 a0 b0", "1a=40", "1a=40", "1a1b=70|1b=45");
        due("all", x.dealt(-1), 125);
        due("BUYER 0", x.dealt(0), 1);
        due("BUYER 1", x.dealt(1), 2);
        due("BUYER 2", x.dealt(2), 4);
        x.set(0, 0, 0);
        x.set(1, 0, 0);
        x.set(2, 0, 0);
        due("COIN does not matter", x.dealt(-1), 125);
        x.leave(2, 2);
        due("one is left out", x.dealt(-1), 110);
        due("the first by HEAPS: BUYER 0", x.dealt(0), 0);
        due("the first by HEAPS: BUYER 1", x.dealt(1), 1);
        due("the first by HEAPS: BUYER 2", x.dealt(2), 6);
        due("BUYER 3", x.dealt(3), UNKNOWN);
        due("BUYER -2", x.dealt(-2), UNKNOWN);
        due("lowest", x.dealt(LOW), UNKNOWN);
        FallClocks y = hall("b0 a0 a1", "2a=50", "1a=50", "1b=1|1a=1");
        due("a tie", y.dealt(-1), 51);
        due("who is first has none", y.dealt(0), 0);
        due("the second the first of a", y.dealt(1), 2);
        due("the third the least", y.dealt(2), 1);
        FallClocks mixed = hall("a0 b0 c0 d0 e0 a1 b1 c1", "1a1b1c1d1e=50", "1a1b1c=30|1a=1", "1e=10", "1d=15");
        due("eight LOTS of all SORTS", mixed.dealt(-1), 80);
        due("one of each", mixed.dealt(0), 31);
        due("the rest of them", mixed.dealt(1), 224);
        FallClocks none = hall("a0", "");
        due("no WISH", none.dealt(-1), 0);
        due("nothing to nobody", none.dealt(0), 0);
    }

    private static void prices() {
        promise = 19;
        FallClocks x = hall("a0 a0", "1a=40");
        due("0 at first", x.price(0, 1000), 0);
        due("1001", x.price(0, 1001), OUTSIDE);
        due("-1", x.price(0, -1), OUTSIDE);
        due("which it was", x.price(0, 30), 1000);
        due("the other", x.price(1, 0), 0);
        due("UNKNOWN is ahead of OUTSIDE", x.price(2, -1), UNKNOWN);
        due("LOT -1", x.price(-1, 0), UNKNOWN);
        due("it counts", x.likes(0, 0), 2);
    }

    private static void liking() {
        promise = 20;
        FallClocks x = hall("a0 b0 a0", "1a=40|1b=35|2a1b=90", "");
        due("all at no price", x.likes(0, 0), 7);
        due("all of its WORTH", x.likes(0, 1), 90);
        x.price(0, 20);
        x.price(1, 20);
        x.price(2, 20);
        due("three for 60", x.likes(0, 0), 7);
        due("30 are left", x.likes(0, 1), 30);
        x.price(1, 30);
        due("of several the least number", x.likes(0, 0), 1);
        due("20 are left", x.likes(0, 1), 20);
        x.price(0, 21);
        due("the cheaper one of a", x.likes(0, 0), 4);
        x.price(2, 40);
        x.price(0, 40);
        x.price(1, 35);
        due("nothing is one", x.likes(0, 0), 0);
        due("0 is left", x.likes(0, 1), 0);
        due("no WISH", x.likes(1, 0), 0);
        due("what 2", x.likes(0, 2), OUTSIDE);
        due("what -1", x.likes(0, -1), OUTSIDE);
        due("UNKNOWN is ahead of OUTSIDE", x.likes(2, 2), UNKNOWN);
        due("buyer -1", x.likes(-1, 0), UNKNOWN);
    }

    private static void missings() {
        promise = 21;
        FallClocks x = hall("a0 b0", "1a=40", "1a=25", "1b=10");
        due("both like a", x.missing(), 25);
        x.price(0, 25);
        due("FAIR", x.missing(), 0);
        x.price(0, 40);
        due("FAIR up to there", x.missing(), 0);
        x.price(0, 41);
        due("too dear", x.missing(), 1);
        x.price(1, 12);
        due("what nobody has costs", x.missing(), 3);
        x.leave(2, 1);
        due("b is wanted no more", x.missing(), 13);
    }

    private static void raisings() {
        promise = 22;
        FallClocks x = hall("a0 b0", "1a=40", "1a=25", "1b=10");
        x.price(0, 77);
        due("ROUNDS till FAIR", x.raised(0), 25);
        due("nothing is MISSING", x.raised(1), 0);
        due("a's PRICE", x.raised(10), 25);
        due("b's PRICE", x.raised(11), 0);
        due("PRICES told stay", x.price(0, 77), 77);
        due("no LOT 2", x.raised(12), UNKNOWN);
        due("no LOT 7", x.raised(17), UNKNOWN);
        for (int what : new int[] {-1, 2, 9, 18, 20, LOW, HIGH}) {
            due("what " + what, x.raised(what), OUTSIDE);
        }
        FallClocks three = hall("a0 b0 c0", "1a1b=60", "1b1c=60", "1a1c=60");
        due("none LIKES any more", three.raised(0), 30);
        due("all agree on nothing", three.raised(1), 30);
        due("all rise at once", three.raised(12), 30);
        FallClocks dear = hall("a0", "1a=300", "1a=300");
        due("300 ROUNDS are enough", dear.raised(0), 300);
        due("just so", dear.raised(1), 0);
        wish(dear, 0, "1a=301");
        wish(dear, 1, "1a=302");
        due("300 ROUNDS are too few", dear.raised(0), 300);
        due("1 is MISSING", dear.raised(1), 1);
        due("no PRICE above", dear.raised(10), 300);
    }

    private static void cartOrders() {
        promise = 23;
        FallClocks x = hall("b0 a0 c1", "1a=10|1a1b=90");
        due("most", x.orders(0), 90);
        due("least", x.orders(1), 10);
        int[] best = {1, 0, 2, NONE, NONE, NONE};
        int[] worst = {0, 1, 2, NONE, NONE, NONE};
        x.swap(0, 2);
        for (int place = 0; place < 6; place++) {
            due("best, place " + place, x.orders(10 + place), best[place]);
            due("worst, place " + place, x.orders(20 + place), worst[place]);
        }
        due("the ORDER itself stays", x.order(0), 2);
        x.set(0, 1, 99);
        due("no BID", x.orders(0), 0);
        x.set(0, 1, 0);
        due("as it was", x.orders(0), 90);
        x.leave(0, 2);
        due("one is left out", x.orders(0), 10);
        x.leave(0, 0);
        wish(x, 0, "1c=8");
        due("by another WISH", x.orders(1), 8);
        x.buyer();
        wish(x, 1, "1a=7");
        due("by another BUYER", x.orders(1), 15);
        for (int what : new int[] {-1, 2, 9, 16, 19, 26, LOW, HIGH}) {
            due("what " + what, x.orders(what), OUTSIDE);
        }
        wish(x, 0, "1d=9");
        due("no d is there", x.orders(0), 7);
        x.lot(3, 0, 0);
        due("by one LOT more", x.orders(0), 16);
        x.lot(3, 0, 0);
        x.lot(3, 0, 0);
        due("six LOTS", x.orders(15), 5);
        x.lot(3, 0, 0);
        due("seven LOTS", x.orders(0), STATE);
        due("OUTSIDE is ahead of STATE", x.orders(16), OUTSIDE);
    }

    private static void cartOrdersOfSix() {
        promise = 23;
        // each LOT is worth something only behind those with higher numbers
        FallClocks x = new FallClocks();
        int[] sorts = {2, 3, 4, 2, 3, 4};
        for (int l = 0; l < 6; l++) {
            x.lot(sorts[l], 0, l < 3 ? 2 : 0);
        }
        x.buyer();
        x.set(0, 1, 0);
        due("six", wish(x, 0, "1e=1|1d1e=2|1c1d1e=3|1c1d2e=5|1c2d2e=7|2c2d2e=9"), 6);
        due("all", x.orders(0), 9);
        due("only e", x.orders(1), 1);
        for (int place = 0; place < 6; place++) {
            due("the last ORDER of all, place " + place, x.orders(10 + place), 5 - place);
            due("the first of the worst, place " + place, x.orders(20 + place), place);
        }
        // by TOP both PRESS at once, and the MARK tells
        FallClocks y = hall("a0", "1a=40", "1a=60");
        due("to the higher BID", y.orders(0), 60);
        y.top(30);
        due("to the lower number", y.orders(0), 40);
        y.set(1, 2, 0);
        due("to the lower MARK", y.orders(1), 60);
    }

    private static void gains() {
        promise = 24;
        FallClocks x = hall("a0 a0", "1a=60|2a=80", "1a=40", "");
        x.set(0, 1, 20);
        due("60 less 48", x.gain(0), 12);
        due("40 less 40", x.gain(1), 0);
        due("nothing", x.gain(2), 0);
        x.set(1, 0, 10);
        due("80 less 48 and 16", x.gain(0), 16);
        due("nobody", x.gain(3), LOST - 1);
        due("buyer -1", x.gain(-1), LOST - 1);
    }

    private static void cuts() {
        promise = 25;
        FallClocks x = hall("a0", "1a=100");
        due("alone: the least that bids 1", x.cut(0, 0), 99);
        due("and gains all but 1", x.cut(0, 1), 99);
        x.buyer();
        wish(x, 1, "1a=40");
        x.set(1, 1, 0);
        due("the same needle goes to the lower number", x.cut(0, 0), 60);
        due("60", x.cut(0, 1), 60);
        x.set(1, 2, 49);
        due("the other's MARK is less", x.cut(0, 0), 59);
        due("59", x.cut(0, 1), 59);
        due("who can't gain keeps to 0", x.cut(1, 0), 0);
        due("0", x.cut(1, 1), 0);
        x.top(30);
        x.set(1, 2, 51);
        due("all CUTS up to 70 pay TOP", x.cut(0, 0), 0);
        x.set(1, 0, 0);
        due("the other has no COIN", x.cut(0, 0), 99);
        due("his CUT stays", x.set(0, 1, 0), 0);
        due("what 2", x.cut(0, 2), LOST - 2);
        due("what -1", x.cut(0, -1), LOST - 2);
        due("UNKNOWN is ahead of OUTSIDE", x.cut(2, 2), LOST - 1);
        due("buyer -1", x.cut(-1, 0), LOST - 1);
    }

    private static void breaks() {
        promise = 26;
        FallClocks x = hall("a0 b0 c0", "1a1b=60", "1b1c=60", "1a1c=60");
        due("the first of three", x.broken(0), 1);
        due("one", x.broken(1), 1);
        due("nothing is left out by that", x.leave(0, 0), 0);
        due("nor in WORTH", x.worth(0, 3), 60);
        wish(x, 0, "1a=60");
        due("no need", x.broken(0), 0);
        due("none", x.broken(1), 0);
        FallClocks one = hall("a0", "1a=999", "1a=999", "1a=999");
        due("two of three, the least as bits", one.broken(0), 3);
        due("two", one.broken(1), 2);
        wish(one, 1, "1a=200");
        due("the two that rise too far", one.broken(0), 1);
        due("what 2", one.broken(2), OUTSIDE);
        due("what -1", one.broken(-1), OUTSIDE);
        FallClocks full = hall("a0", "1a=1|1a=2|1a=3|1a=4|1a=5|1a=6", "1a=999|1a=998");
        due("eight are there", full.broken(0), 0);
        full.buyer();
        wish(full, 2, "1e=1");
        due("nine", full.broken(0), STATE);
        full.leave(0, 63);
        due("those left out count", full.broken(1), STATE);
        due("OUTSIDE is ahead of STATE", full.broken(2), OUTSIDE);
    }

    private static void breaksWithSomeLeftOut() {
        promise = 26;
        FallClocks x = hall("a0 b0 c0", "1e=5|1a1b=60", "1b1c=60", "1a1c=60");
        due("by BUYERS, then ALTERNATIVES", x.broken(0), 2);
        x.leave(0, 1);
        due("what is left out is in none, and keeps its bit", x.broken(0), 2);
        due("it stays left out", x.leave(0, 3), 1);
        due("that was enough", x.broken(0), 0);
        due("nothing more", x.broken(1), 0);
        x.leave(0, 0);
        due("as at first", x.broken(1), 1);
        FallClocks late = hall("a0", "1b=1|1b=2|1b=3", "1b=1|1b=2|1b=3", "1a=700", "1a=700");
        due("the seventh bit", late.broken(0), 64);
        late.leave(2, 1);
        due("needless then", late.broken(0), 0);
    }

    private static void lessons() {
        promise = 27;
        FallClocks x = new FallClocks();
        due("0", x.lesson(0), OUTSIDE);
        due("201", x.lesson(201), OUTSIDE);
        due("lowest", x.lesson(LOW), OUTSIDE);
        due("highest", x.lesson(HIGH), OUTSIDE);
        due("none", x.told(3), 0);
        due("1", x.lesson(1), 1);
        due("200", x.lesson(200), 2);
        for (int i = 3; i <= 8; i++) {
            due("lesson " + i, x.lesson(100), i);
        }
        due("ninth", x.lesson(100), FULL);
        due("OUTSIDE is ahead of FULL", x.lesson(0), OUTSIDE);
        due("eight", x.told(3), 8);
        due("TOP stays", x.told(4), 100);
    }

    private static void unlearning() {
        promise = 28;
        FallClocks x = new FallClocks();
        due("none", x.unlearn(), 0);
        x.lesson(5);
        x.lesson(6);
        due("two", x.unlearn(), 2);
        due("gone", x.told(3), 0);
        due("from the start", x.lesson(7), 1);
    }

    private static void learning() {
        promise = 29;
        FallClocks x = hall("a0", "1a=50");
        due("no DAYS", x.learn(0, 0, 0), 0);
        due("no DAYS, alone", x.learn(0, 0, 1), 0);
        due("no DAYS, more", x.learn(0, 0, 2), 0);
        due("no DAY 0", x.learn(0, 0, 10), NONE);
        // by CUTS 0, 10, 20 he gains 0, 5, 10 by TOP 100, 20 each by TOP 30, 8, 8, 10 by TOP 42
        x.lesson(100);
        x.lesson(30);
        x.lesson(42);
        due("0 and 20 and 10", x.learn(0, 0, 0), 30);
        due("CUT 20 alone", x.learn(0, 0, 1), 40);
        due("how much more", x.learn(0, 0, 2), 10);
        int[] chosen = {0, 20, 20, NONE, NONE, NONE, NONE, NONE};
        for (int d = 0; d < 8; d++) {
            due("CUT of DAY " + d, x.learn(0, 0, 10 + d), chosen[d]);
        }
        x.unlearn();
        x.lesson(30);
        x.lesson(100);
        due("the first such", x.learn(0, 0, 11), 0);
        due("20 and 0", x.learn(0, 0, 0), 20);
        due("20 and 10 alone", x.learn(0, 0, 1), 30);
        due("greatest c: 99 bids nothing, 89 bids 5", x.learn(0, 79, 1), 45 + 45);
        due("by 79 it bids 10", x.learn(0, 79, 0), 40 + 45);
        due("TOP stays", x.told(4), 100);
        due("CUT stays", x.set(0, 1, 0), 0);
        for (int what : new int[] {-1, 3, 9, 18, LOW, HIGH}) {
            due("what " + what, x.learn(0, 0, what), LOST - 2);
        }
        due("c 80", x.learn(0, 80, 0), LOST - 2);
        due("c -1", x.learn(0, -1, 0), LOST - 2);
        due("OUTSIDE is ahead of NONE", x.learn(0, 80, 17), LOST - 2);
        due("UNKNOWN is ahead of OUTSIDE", x.learn(1, 80, 3), LOST - 1);
        due("buyer -1", x.learn(-1, 0, 0), LOST - 1);
    }

    private static void tellings() {
        promise = 30;
        FallClocks x = hall("a0 b0", "1a=1|1b=2", "", "1c=3");
        x.wipe();
        say(x, "1a=");
        x.lesson(9);
        x.top(77);
        x.leave(0, 1);
        int[] want = {2, 3, 3, 1, 77};
        for (int what = 0; what < 5; what++) {
            due("told " + what, x.told(what), want[what]);
        }
        int[] alternatives = {2, 0, 1, 0, 0, 0};
        for (int b = 0; b < 6; b++) {
            due("ALTERNATIVES of BUYER " + b, x.told(10 + b), alternatives[b]);
        }
        for (int what : new int[] {-1, 5, 9, 16, LOW, HIGH}) {
            due("told " + what, x.told(what), OUTSIDE);
        }
    }
}
